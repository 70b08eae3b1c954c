/-! THE SIMULATION, instruction by instruction: where the abstract machine comes to an end, the real one does -/
/-- what a method that ended so has at its end -/
def am_Post (K : AKx) (o : AO) (h1 : AH) : Array Value → State → Outcome → State → Prop := fun _ st oc t => ∃ (v : Option AV) (va1 : Nat → Nat), o = Sum.inl v ∧ oc = .returned (v.map (am_rv K va1)) ∧ am_Rel K va1 h1 t.heap ∧ va_F (am_fr K) st t ∧ am_agr K va1 h1 ∧ ∀ w, v = some w → am_okv h1 w
def am_PostX (K : AKx) (o : AO) (h1 : AH) : String → State → State → Prop := fun E st t => (∃ j : Nat, j < 3 ∧ o = Sum.inr j ∧ E = am_xs j) ∧ (∃ va1 : Nat → Nat, am_Rel K va1 h1 t.heap ∧ am_agr K va1 h1) ∧ va_F (am_fr K) st t
/-- the frame at pc comes to its method's end as the abstract one does -/
def am_G (K : AKx) (p : Program) (l : Launch) (e : Env) (R : Room) (s : State) (m : MethodId) (args : Array Value) (below : List Frame) (meth : Method) (c : Code) (mr : MR) (o : AO) (h1 : AH) (pc : Nat) (ls : AL) (st : List AV) (h : AH) : Prop :=
  ∀ (va : Nat → Nat) (H : Heap) (locs : List Loc) (cells slots : Nat) (lsr : Array Slot), am_Rel K va h H → va_S (am_fr K) s.heap H locs → cells + h1.nc ≤ R.cells + h.nc → slots + h1.ns ≤ R.slots + h.ns → am_LR K va mr.2.1 lsr ls → am_ok K va h ls st → W p l e R s m args below meth c H locs cells slots (vx_MQ below (am_Post K o h1) (am_PostX K o h1) args s R.cells R.slots (am_fr K)) (F0 m pc lsr (st.map (am_rv K va)))
/-- behind an instruction: the next one; a jump -/
def am_Nx (K : AKx) (p : Program) (l : Launch) (e : Env) (R : Room) (s : State) (m : MethodId) (args : Array Value) (below : List Frame) (meth : Method) (c : Code) (mr : MR) (o : AO) (h1 : AH) (nx : Nat) (d : Nat) (ih : AK) (r : List CI) : Prop := ∀ (ls2 : AL) (st2 : List AV) (h2 : AH), ih mr r ls2 st2 h2 d = some (o, h1) → am_G K p l e R s m args below meth c mr o h1 nx ls2 st2 h2
def am_Jm (K : AKx) (p : Program) (l : Launch) (e : Env) (R : Room) (s : State) (m : MethodId) (args : Array Value) (below : List Frame) (meth : Method) (c : Code) (mr : MR) (o : AO) (h1 : AH) (d : Nat) (ih : AK) : Prop := ∀ (t2 : Nat) (ls2 : AL) (st2 : List AV) (h2 : AH), ih mr (am_jmp t2 mr.2.2.1) ls2 st2 h2 d = some (o, h1) → am_G K p l e R s m args below meth c mr o h1 t2 ls2 st2 h2

theorem am_s_iconst {K : AKx} {p : Program} {l : Launch} {e : Env} {R : Room} {s : State} {m : MethodId} {args : Array Value} {below : List Frame} {meth : Method} {c : Code} {bytes : ByteArray} {mr : MR} {o : AO} {h1 : AH} {ih : AK} {pc len tgt d : Nat} {r : List CI} {ls : AL} {st : List AV} {h : AH} {n : Int} (hx : p.tables.exec = Jvm.exec) (hb : c.code = bytes)  (hdec : decode bytes pc = .ok (.iconst n, 1)) (nx : am_Nx K p l e R s m args below meth c mr o h1 (pc + 1) d ih r) (hrun : am_step ih mr ((pc, .iconst n, len, tgt) :: r) ls st h d = some (o, h1)) : am_G K p l e R s m args below meth c mr o h1 pc ls st h := by
  intro va H locs cells slots lsr hR hS hc hs hL hO
  exact lv_iconst hx hb hdec rfl (nx _ _ _ hrun va H locs cells slots lsr hR hS hc hs hL (hO.num))
theorem am_s_bipush {K : AKx} {p : Program} {l : Launch} {e : Env} {R : Room} {s : State} {m : MethodId} {args : Array Value} {below : List Frame} {meth : Method} {c : Code} {bytes : ByteArray} {mr : MR} {o : AO} {h1 : AH} {ih : AK} {pc len tgt d : Nat} {r : List CI} {ls : AL} {st : List AV} {h : AH} {n : Int} (hx : p.tables.exec = Jvm.exec) (hb : c.code = bytes)  (hdec : decode bytes pc = .ok (.bipush n, 2)) (nx : am_Nx K p l e R s m args below meth c mr o h1 (pc + 2) d ih r) (hrun : am_step ih mr ((pc, .bipush n, len, tgt) :: r) ls st h d = some (o, h1)) : am_G K p l e R s m args below meth c mr o h1 pc ls st h := by
  intro va H locs cells slots lsr hR hS hc hs hL hO
  exact lv_bipush hx hb hdec rfl (nx _ _ _ hrun va H locs cells slots lsr hR hS hc hs hL (hO.num))
theorem am_s_sipush {K : AKx} {p : Program} {l : Launch} {e : Env} {R : Room} {s : State} {m : MethodId} {args : Array Value} {below : List Frame} {meth : Method} {c : Code} {bytes : ByteArray} {mr : MR} {o : AO} {h1 : AH} {ih : AK} {pc len tgt d : Nat} {r : List CI} {ls : AL} {st : List AV} {h : AH} {n : Int} (hx : p.tables.exec = Jvm.exec) (hb : c.code = bytes)  (hdec : decode bytes pc = .ok (.sipush n, 3)) (nx : am_Nx K p l e R s m args below meth c mr o h1 (pc + 3) d ih r) (hrun : am_step ih mr ((pc, .sipush n, len, tgt) :: r) ls st h d = some (o, h1)) : am_G K p l e R s m args below meth c mr o h1 pc ls st h := by
  intro va H locs cells slots lsr hR hS hc hs hL hO
  exact lv_sipush hx hb hdec rfl (nx _ _ _ hrun va H locs cells slots lsr hR hS hc hs hL (hO.num))
theorem am_s_lconst {K : AKx} {p : Program} {l : Launch} {e : Env} {R : Room} {s : State} {m : MethodId} {args : Array Value} {below : List Frame} {meth : Method} {c : Code} {bytes : ByteArray} {mr : MR} {o : AO} {h1 : AH} {ih : AK} {pc len tgt d : Nat} {r : List CI} {ls : AL} {st : List AV} {h : AH} {n : Fin 2} (hx : p.tables.exec = Jvm.exec) (hb : c.code = bytes)  (hdec : decode bytes pc = .ok (.lconst n, 1)) (nx : am_Nx K p l e R s m args below meth c mr o h1 (pc + 1) d ih r) (hrun : am_step ih mr ((pc, .lconst n, len, tgt) :: r) ls st h d = some (o, h1)) : am_G K p l e R s m args below meth c mr o h1 pc ls st h := by
  intro va H locs cells slots lsr hR hS hc hs hL hO
  exact lv_lconst hx hb hdec rfl (nx _ _ _ hrun va H locs cells slots lsr hR hS hc hs hL (hO.num))
theorem am_s_aconst_null {K : AKx} {p : Program} {l : Launch} {e : Env} {R : Room} {s : State} {m : MethodId} {args : Array Value} {below : List Frame} {meth : Method} {c : Code} {bytes : ByteArray} {mr : MR} {o : AO} {h1 : AH} {ih : AK} {pc len tgt d : Nat} {r : List CI} {ls : AL} {st : List AV} {h : AH}  (hx : p.tables.exec = Jvm.exec) (hb : c.code = bytes)  (hdec : decode bytes pc = .ok (.aconst_null, 1)) (nx : am_Nx K p l e R s m args below meth c mr o h1 (pc + 1) d ih r) (hrun : am_step ih mr ((pc, .aconst_null, len, tgt) :: r) ls st h d = some (o, h1)) : am_G K p l e R s m args below meth c mr o h1 pc ls st h := by
  intro va H locs cells slots lsr hR hS hc hs hL hO
  exact lv_null hx hb hdec (nx _ _ _ hrun va H locs cells slots lsr hR hS hc hs hL (hO.num))
theorem am_s_fconst {K : AKx} {p : Program} {l : Launch} {e : Env} {R : Room} {s : State} {m : MethodId} {args : Array Value} {below : List Frame} {meth : Method} {c : Code} {bytes : ByteArray} {mr : MR} {o : AO} {h1 : AH} {ih : AK} {pc len tgt d : Nat} {r : List CI} {ls : AL} {st : List AV} {h : AH} {n : Fin 3} (hx : p.tables.exec = Jvm.exec) (hb : c.code = bytes)  (hdec : decode bytes pc = .ok (.fconst n, 1)) (nx : am_Nx K p l e R s m args below meth c mr o h1 (pc + 1) d ih r) (hrun : am_step ih mr ((pc, .fconst n, len, tgt) :: r) ls st h d = some (o, h1)) : am_G K p l e R s m args below meth c mr o h1 pc ls st h := by
  intro va H locs cells slots lsr hR hS hc hs hL hO
  have hz : n = 0 ∧ ih mr r ls (Sum.inl (Value.float FP.fconst0) :: st) h d = some (o, h1) := by
    have h9 : (bif Nat.beq n.val 0 then ih mr r ls (Sum.inl (Value.float FP.fconst0) :: st) h d else none) = some (o, h1) := hrun
    cases hb9 : Nat.beq n.val 0 with
    | true => rw [hb9] at h9; exact ⟨Fin.ext (Nat.eq_of_beq_eq_true hb9), h9⟩
    | false => rw [hb9] at h9; cases h9
  obtain ⟨rfl, hrun⟩ := hz
  exact lv_fconst0 hx hb hdec (nx _ _ _ hrun va H locs cells slots lsr hR hS hc hs hL (hO.num))
theorem am_s_dconst {K : AKx} {p : Program} {l : Launch} {e : Env} {R : Room} {s : State} {m : MethodId} {args : Array Value} {below : List Frame} {meth : Method} {c : Code} {bytes : ByteArray} {mr : MR} {o : AO} {h1 : AH} {ih : AK} {pc len tgt d : Nat} {r : List CI} {ls : AL} {st : List AV} {h : AH} {n : Fin 2} (hx : p.tables.exec = Jvm.exec) (hb : c.code = bytes)  (hdec : decode bytes pc = .ok (.dconst n, 1)) (nx : am_Nx K p l e R s m args below meth c mr o h1 (pc + 1) d ih r) (hrun : am_step ih mr ((pc, .dconst n, len, tgt) :: r) ls st h d = some (o, h1)) : am_G K p l e R s m args below meth c mr o h1 pc ls st h := by
  intro va H locs cells slots lsr hR hS hc hs hL hO
  have hz : n = 0 ∧ ih mr r ls (Sum.inl (Value.double FP.dconst0) :: st) h d = some (o, h1) := by
    have h9 : (bif Nat.beq n.val 0 then ih mr r ls (Sum.inl (Value.double FP.dconst0) :: st) h d else none) = some (o, h1) := hrun
    cases hb9 : Nat.beq n.val 0 with
    | true => rw [hb9] at h9; exact ⟨Fin.ext (Nat.eq_of_beq_eq_true hb9), h9⟩
    | false => rw [hb9] at h9; cases h9
  obtain ⟨rfl, hrun⟩ := hz
  exact lv_dconst0 hx hb hdec (nx _ _ _ hrun va H locs cells slots lsr hR hS hc hs hL (hO.num))
theorem am_s_iload_n {K : AKx} {p : Program} {l : Launch} {e : Env} {R : Room} {s : State} {m : MethodId} {args : Array Value} {below : List Frame} {meth : Method} {c : Code} {bytes : ByteArray} {mr : MR} {o : AO} {h1 : AH} {ih : AK} {pc len tgt d : Nat} {r : List CI} {ls : AL} {st : List AV} {h : AH} {k : Fin 4} (hx : p.tables.exec = Jvm.exec) (hb : c.code = bytes)  (hdec : decode bytes pc = .ok (.iload_n k, 1)) (nx : am_Nx K p l e R s m args below meth c mr o h1 (pc + 1) d ih r) (hrun : am_step ih mr ((pc, .iload_n k, len, tgt) :: r) ls st h d = some (o, h1)) : am_G K p l e R s m args below meth c mr o h1 pc ls st h := by
  intro va H locs cells slots lsr hR hS hc hs hL hO
  have h9 : (match am_get ls k.val with | some (Sum.inl (Value.int x)) => ih mr r ls (Sum.inl (Value.int x) :: st) h d | _ => none) = some (o, h1) := hrun
  split at h9
  · next x hg => exact lv_iload_n hx hb hdec rfl (hL.at hg) (nx _ _ _ h9 va H locs cells slots lsr hR hS hc hs hL (hO.num))
  · cases h9
theorem am_s_iload {K : AKx} {p : Program} {l : Launch} {e : Env} {R : Room} {s : State} {m : MethodId} {args : Array Value} {below : List Frame} {meth : Method} {c : Code} {bytes : ByteArray} {mr : MR} {o : AO} {h1 : AH} {ih : AK} {pc len tgt d : Nat} {r : List CI} {ls : AL} {st : List AV} {h : AH} {k : Nat} (hx : p.tables.exec = Jvm.exec) (hb : c.code = bytes)  (hdec : decode bytes pc = .ok (.iload k, 2)) (nx : am_Nx K p l e R s m args below meth c mr o h1 (pc + 2) d ih r) (hrun : am_step ih mr ((pc, .iload k, len, tgt) :: r) ls st h d = some (o, h1)) : am_G K p l e R s m args below meth c mr o h1 pc ls st h := by
  intro va H locs cells slots lsr hR hS hc hs hL hO
  have h9 : (match am_get ls k with | some (Sum.inl (Value.int x)) => ih mr r ls (Sum.inl (Value.int x) :: st) h d | _ => none) = some (o, h1) := hrun
  split at h9
  · next x hg => exact lv_iload hx hb hdec (hL.at hg) (nx _ _ _ h9 va H locs cells slots lsr hR hS hc hs hL (hO.num))
  · cases h9
theorem am_s_fload_n {K : AKx} {p : Program} {l : Launch} {e : Env} {R : Room} {s : State} {m : MethodId} {args : Array Value} {below : List Frame} {meth : Method} {c : Code} {bytes : ByteArray} {mr : MR} {o : AO} {h1 : AH} {ih : AK} {pc len tgt d : Nat} {r : List CI} {ls : AL} {st : List AV} {h : AH} {k : Fin 4} (hx : p.tables.exec = Jvm.exec) (hb : c.code = bytes)  (hdec : decode bytes pc = .ok (.fload_n k, 1)) (nx : am_Nx K p l e R s m args below meth c mr o h1 (pc + 1) d ih r) (hrun : am_step ih mr ((pc, .fload_n k, len, tgt) :: r) ls st h d = some (o, h1)) : am_G K p l e R s m args below meth c mr o h1 pc ls st h := by
  intro va H locs cells slots lsr hR hS hc hs hL hO
  have h9 : (match am_get ls k.val with | some (Sum.inl (Value.float x)) => ih mr r ls (Sum.inl (Value.float x) :: st) h d | _ => none) = some (o, h1) := hrun
  split at h9
  · next x hg => exact lv_fload_n hx hb hdec rfl (hL.at hg) (nx _ _ _ h9 va H locs cells slots lsr hR hS hc hs hL (hO.num))
  · cases h9
theorem am_s_fload {K : AKx} {p : Program} {l : Launch} {e : Env} {R : Room} {s : State} {m : MethodId} {args : Array Value} {below : List Frame} {meth : Method} {c : Code} {bytes : ByteArray} {mr : MR} {o : AO} {h1 : AH} {ih : AK} {pc len tgt d : Nat} {r : List CI} {ls : AL} {st : List AV} {h : AH} {k : Nat} (hx : p.tables.exec = Jvm.exec) (hb : c.code = bytes)  (hdec : decode bytes pc = .ok (.fload k, 2)) (nx : am_Nx K p l e R s m args below meth c mr o h1 (pc + 2) d ih r) (hrun : am_step ih mr ((pc, .fload k, len, tgt) :: r) ls st h d = some (o, h1)) : am_G K p l e R s m args below meth c mr o h1 pc ls st h := by
  intro va H locs cells slots lsr hR hS hc hs hL hO
  have h9 : (match am_get ls k with | some (Sum.inl (Value.float x)) => ih mr r ls (Sum.inl (Value.float x) :: st) h d | _ => none) = some (o, h1) := hrun
  split at h9
  · next x hg => exact lv_fload hx hb hdec (hL.at hg) (nx _ _ _ h9 va H locs cells slots lsr hR hS hc hs hL (hO.num))
  · cases h9
theorem am_s_dload_n {K : AKx} {p : Program} {l : Launch} {e : Env} {R : Room} {s : State} {m : MethodId} {args : Array Value} {below : List Frame} {meth : Method} {c : Code} {bytes : ByteArray} {mr : MR} {o : AO} {h1 : AH} {ih : AK} {pc len tgt d : Nat} {r : List CI} {ls : AL} {st : List AV} {h : AH} {k : Fin 4} (hx : p.tables.exec = Jvm.exec) (hb : c.code = bytes)  (hdec : decode bytes pc = .ok (.dload_n k, 1)) (nx : am_Nx K p l e R s m args below meth c mr o h1 (pc + 1) d ih r) (hrun : am_step ih mr ((pc, .dload_n k, len, tgt) :: r) ls st h d = some (o, h1)) : am_G K p l e R s m args below meth c mr o h1 pc ls st h := by
  intro va H locs cells slots lsr hR hS hc hs hL hO
  have h9 : (match am_get ls k.val with | some (Sum.inl (Value.double x)) => ih mr r ls (Sum.inl (Value.double x) :: st) h d | _ => none) = some (o, h1) := hrun
  split at h9
  · next x hg => exact lv_dload_n hx hb hdec rfl (hL.at hg) (nx _ _ _ h9 va H locs cells slots lsr hR hS hc hs hL (hO.num))
  · cases h9
theorem am_s_dload {K : AKx} {p : Program} {l : Launch} {e : Env} {R : Room} {s : State} {m : MethodId} {args : Array Value} {below : List Frame} {meth : Method} {c : Code} {bytes : ByteArray} {mr : MR} {o : AO} {h1 : AH} {ih : AK} {pc len tgt d : Nat} {r : List CI} {ls : AL} {st : List AV} {h : AH} {k : Nat} (hx : p.tables.exec = Jvm.exec) (hb : c.code = bytes)  (hdec : decode bytes pc = .ok (.dload k, 2)) (nx : am_Nx K p l e R s m args below meth c mr o h1 (pc + 2) d ih r) (hrun : am_step ih mr ((pc, .dload k, len, tgt) :: r) ls st h d = some (o, h1)) : am_G K p l e R s m args below meth c mr o h1 pc ls st h := by
  intro va H locs cells slots lsr hR hS hc hs hL hO
  have h9 : (match am_get ls k with | some (Sum.inl (Value.double x)) => ih mr r ls (Sum.inl (Value.double x) :: st) h d | _ => none) = some (o, h1) := hrun
  split at h9
  · next x hg => exact lv_dload hx hb hdec (hL.at hg) (nx _ _ _ h9 va H locs cells slots lsr hR hS hc hs hL (hO.num))
  · cases h9
theorem am_s_lload_n {K : AKx} {p : Program} {l : Launch} {e : Env} {R : Room} {s : State} {m : MethodId} {args : Array Value} {below : List Frame} {meth : Method} {c : Code} {bytes : ByteArray} {mr : MR} {o : AO} {h1 : AH} {ih : AK} {pc len tgt d : Nat} {r : List CI} {ls : AL} {st : List AV} {h : AH} {k : Fin 4} (hx : p.tables.exec = Jvm.exec) (hb : c.code = bytes)  (hdec : decode bytes pc = .ok (.lload_n k, 1)) (nx : am_Nx K p l e R s m args below meth c mr o h1 (pc + 1) d ih r) (hrun : am_step ih mr ((pc, .lload_n k, len, tgt) :: r) ls st h d = some (o, h1)) : am_G K p l e R s m args below meth c mr o h1 pc ls st h := by
  intro va H locs cells slots lsr hR hS hc hs hL hO
  have h9 : (match am_get ls k.val with | some (Sum.inl (Value.long x)) => ih mr r ls (Sum.inl (Value.long x) :: st) h d | _ => none) = some (o, h1) := hrun
  split at h9
  · next x hg => exact lv_lload_n hx hb hdec rfl (hL.at hg) (nx _ _ _ h9 va H locs cells slots lsr hR hS hc hs hL (hO.num))
  · cases h9
theorem am_s_lload {K : AKx} {p : Program} {l : Launch} {e : Env} {R : Room} {s : State} {m : MethodId} {args : Array Value} {below : List Frame} {meth : Method} {c : Code} {bytes : ByteArray} {mr : MR} {o : AO} {h1 : AH} {ih : AK} {pc len tgt d : Nat} {r : List CI} {ls : AL} {st : List AV} {h : AH} {k : Nat} (hx : p.tables.exec = Jvm.exec) (hb : c.code = bytes)  (hdec : decode bytes pc = .ok (.lload k, 2)) (nx : am_Nx K p l e R s m args below meth c mr o h1 (pc + 2) d ih r) (hrun : am_step ih mr ((pc, .lload k, len, tgt) :: r) ls st h d = some (o, h1)) : am_G K p l e R s m args below meth c mr o h1 pc ls st h := by
  intro va H locs cells slots lsr hR hS hc hs hL hO
  have h9 : (match am_get ls k with | some (Sum.inl (Value.long x)) => ih mr r ls (Sum.inl (Value.long x) :: st) h d | _ => none) = some (o, h1) := hrun
  split at h9
  · next x hg => exact lv_lload hx hb hdec (hL.at hg) (nx _ _ _ h9 va H locs cells slots lsr hR hS hc hs hL (hO.num))
  · cases h9
theorem am_s_aload_n {K : AKx} {p : Program} {l : Launch} {e : Env} {R : Room} {s : State} {m : MethodId} {args : Array Value} {below : List Frame} {meth : Method} {c : Code} {bytes : ByteArray} {mr : MR} {o : AO} {h1 : AH} {ih : AK} {pc len tgt d : Nat} {r : List CI} {ls : AL} {st : List AV} {h : AH} {k : Fin 4} (hx : p.tables.exec = Jvm.exec) (hb : c.code = bytes)  (hdec : decode bytes pc = .ok (.aload_n k, 1)) (nx : am_Nx K p l e R s m args below meth c mr o h1 (pc + 1) d ih r) (hrun : am_step ih mr ((pc, .aload_n k, len, tgt) :: r) ls st h d = some (o, h1)) : am_G K p l e R s m args below meth c mr o h1 pc ls st h := by
  intro va H locs cells slots lsr hR hS hc hs hL hO
  have h9 : (match am_get ls k.val with | some (Sum.inr a) => ih mr r ls (Sum.inr a :: st) h d | some (Sum.inl Value.null) => ih mr r ls (Sum.inl Value.null :: st) h d | _ => none) = some (o, h1) := hrun
  split at h9
  · next a hg => exact lv_aload_n hx hb hdec rfl (hL.at hg) (nx _ _ _ h9 va H locs cells slots lsr hR hS hc hs hL (hO.ld hg))
  · next hg => exact lv_aload_nN hx hb hdec rfl (hL.at hg) (nx _ _ _ h9 va H locs cells slots lsr hR hS hc hs hL (hO.num))
  · cases h9
theorem am_s_aload {K : AKx} {p : Program} {l : Launch} {e : Env} {R : Room} {s : State} {m : MethodId} {args : Array Value} {below : List Frame} {meth : Method} {c : Code} {bytes : ByteArray} {mr : MR} {o : AO} {h1 : AH} {ih : AK} {pc len tgt d : Nat} {r : List CI} {ls : AL} {st : List AV} {h : AH} {k : Nat} (hx : p.tables.exec = Jvm.exec) (hb : c.code = bytes)  (hdec : decode bytes pc = .ok (.aload k, 2)) (nx : am_Nx K p l e R s m args below meth c mr o h1 (pc + 2) d ih r) (hrun : am_step ih mr ((pc, .aload k, len, tgt) :: r) ls st h d = some (o, h1)) : am_G K p l e R s m args below meth c mr o h1 pc ls st h := by
  intro va H locs cells slots lsr hR hS hc hs hL hO
  have h9 : (match am_get ls k with | some (Sum.inr a) => ih mr r ls (Sum.inr a :: st) h d | some (Sum.inl Value.null) => ih mr r ls (Sum.inl Value.null :: st) h d | _ => none) = some (o, h1) := hrun
  split at h9
  · next a hg => exact lv_aload hx hb hdec (hL.at hg) (nx _ _ _ h9 va H locs cells slots lsr hR hS hc hs hL (hO.ld hg))
  · next hg => exact lv_aloadN hx hb hdec (hL.at hg) (nx _ _ _ h9 va H locs cells slots lsr hR hS hc hs hL (hO.num))
  · cases h9
theorem am_s_istore_n {K : AKx} {p : Program} {l : Launch} {e : Env} {R : Room} {s : State} {m : MethodId} {args : Array Value} {below : List Frame} {meth : Method} {c : Code} {bytes : ByteArray} {mr : MR} {o : AO} {h1 : AH} {ih : AK} {pc len tgt d : Nat} {r : List CI} {ls : AL} {st : List AV} {h : AH} {k : Fin 4} (hx : p.tables.exec = Jvm.exec) (hb : c.code = bytes) (hk : k.val < mr.2.1) (hdec : decode bytes pc = .ok (.istore_n k, 1)) (nx : am_Nx K p l e R s m args below meth c mr o h1 (pc + 1) d ih r) (hrun : am_step ih mr ((pc, .istore_n k, len, tgt) :: r) ls st h d = some (o, h1)) : am_G K p l e R s m args below meth c mr o h1 pc ls st h := by
  intro va H locs cells slots lsr hR hS hc hs hL hO
  have h9 : (match (generalizing := false) st with | Sum.inl (Value.int x) :: t => ih mr r (am_put ls k.val (Sum.inl (Value.int x))) t h d | _ => none) = some (o, h1) := hrun
  split at h9
  · next x t => exact lv_istore_n hx hb hdec rfl hL.has hk rfl (fun lsr' hl' => nx _ _ _ h9 va H locs cells slots lsr' hR hS hc hs (am_LR.put1 (v := Sum.inl (Value.int x)) rfl hl') (hO.pop.put trivial))
  · cases h9
theorem am_s_istore {K : AKx} {p : Program} {l : Launch} {e : Env} {R : Room} {s : State} {m : MethodId} {args : Array Value} {below : List Frame} {meth : Method} {c : Code} {bytes : ByteArray} {mr : MR} {o : AO} {h1 : AH} {ih : AK} {pc len tgt d : Nat} {r : List CI} {ls : AL} {st : List AV} {h : AH} {k : Nat} (hx : p.tables.exec = Jvm.exec) (hb : c.code = bytes) (hk : k < mr.2.1) (hdec : decode bytes pc = .ok (.istore k, 2)) (nx : am_Nx K p l e R s m args below meth c mr o h1 (pc + 2) d ih r) (hrun : am_step ih mr ((pc, .istore k, len, tgt) :: r) ls st h d = some (o, h1)) : am_G K p l e R s m args below meth c mr o h1 pc ls st h := by
  intro va H locs cells slots lsr hR hS hc hs hL hO
  have h9 : (match (generalizing := false) st with | Sum.inl (Value.int x) :: t => ih mr r (am_put ls k (Sum.inl (Value.int x))) t h d | _ => none) = some (o, h1) := hrun
  split at h9
  · next x t => exact lv_istore hx hb hdec hL.has hk rfl (fun lsr' hl' => nx _ _ _ h9 va H locs cells slots lsr' hR hS hc hs (am_LR.put1 (v := Sum.inl (Value.int x)) rfl hl') (hO.pop.put trivial))
  · cases h9
theorem am_s_fstore_n {K : AKx} {p : Program} {l : Launch} {e : Env} {R : Room} {s : State} {m : MethodId} {args : Array Value} {below : List Frame} {meth : Method} {c : Code} {bytes : ByteArray} {mr : MR} {o : AO} {h1 : AH} {ih : AK} {pc len tgt d : Nat} {r : List CI} {ls : AL} {st : List AV} {h : AH} {k : Fin 4} (hx : p.tables.exec = Jvm.exec) (hb : c.code = bytes) (hk : k.val < mr.2.1) (hdec : decode bytes pc = .ok (.fstore_n k, 1)) (nx : am_Nx K p l e R s m args below meth c mr o h1 (pc + 1) d ih r) (hrun : am_step ih mr ((pc, .fstore_n k, len, tgt) :: r) ls st h d = some (o, h1)) : am_G K p l e R s m args below meth c mr o h1 pc ls st h := by
  intro va H locs cells slots lsr hR hS hc hs hL hO
  have h9 : (match (generalizing := false) st with | Sum.inl (Value.float x) :: t => ih mr r (am_put ls k.val (Sum.inl (Value.float x))) t h d | _ => none) = some (o, h1) := hrun
  split at h9
  · next x t => exact lv_fstore_n hx hb hdec rfl hL.has hk rfl (fun lsr' hl' => nx _ _ _ h9 va H locs cells slots lsr' hR hS hc hs (am_LR.put1 (v := Sum.inl (Value.float x)) rfl hl') (hO.pop.put trivial))
  · cases h9
theorem am_s_fstore {K : AKx} {p : Program} {l : Launch} {e : Env} {R : Room} {s : State} {m : MethodId} {args : Array Value} {below : List Frame} {meth : Method} {c : Code} {bytes : ByteArray} {mr : MR} {o : AO} {h1 : AH} {ih : AK} {pc len tgt d : Nat} {r : List CI} {ls : AL} {st : List AV} {h : AH} {k : Nat} (hx : p.tables.exec = Jvm.exec) (hb : c.code = bytes) (hk : k < mr.2.1) (hdec : decode bytes pc = .ok (.fstore k, 2)) (nx : am_Nx K p l e R s m args below meth c mr o h1 (pc + 2) d ih r) (hrun : am_step ih mr ((pc, .fstore k, len, tgt) :: r) ls st h d = some (o, h1)) : am_G K p l e R s m args below meth c mr o h1 pc ls st h := by
  intro va H locs cells slots lsr hR hS hc hs hL hO
  have h9 : (match (generalizing := false) st with | Sum.inl (Value.float x) :: t => ih mr r (am_put ls k (Sum.inl (Value.float x))) t h d | _ => none) = some (o, h1) := hrun
  split at h9
  · next x t => exact lv_fstore hx hb hdec hL.has hk rfl (fun lsr' hl' => nx _ _ _ h9 va H locs cells slots lsr' hR hS hc hs (am_LR.put1 (v := Sum.inl (Value.float x)) rfl hl') (hO.pop.put trivial))
  · cases h9
theorem am_s_dstore_n {K : AKx} {p : Program} {l : Launch} {e : Env} {R : Room} {s : State} {m : MethodId} {args : Array Value} {below : List Frame} {meth : Method} {c : Code} {bytes : ByteArray} {mr : MR} {o : AO} {h1 : AH} {ih : AK} {pc len tgt d : Nat} {r : List CI} {ls : AL} {st : List AV} {h : AH} {k : Fin 4} (hx : p.tables.exec = Jvm.exec) (hb : c.code = bytes) (hk : k.val + 1 < mr.2.1) (hdec : decode bytes pc = .ok (.dstore_n k, 1)) (nx : am_Nx K p l e R s m args below meth c mr o h1 (pc + 1) d ih r) (hrun : am_step ih mr ((pc, .dstore_n k, len, tgt) :: r) ls st h d = some (o, h1)) : am_G K p l e R s m args below meth c mr o h1 pc ls st h := by
  intro va H locs cells slots lsr hR hS hc hs hL hO
  have h9 : (match (generalizing := false) st with | Sum.inl (Value.double x) :: t => ih mr r (am_put ls k.val (Sum.inl (Value.double x))) t h d | _ => none) = some (o, h1) := hrun
  split at h9
  · next x t => exact lv_dstore_n hx hb hdec rfl hL.has hk rfl (fun lsr' hl' => nx _ _ _ h9 va H locs cells slots lsr' hR hS hc hs (am_LR.put2 (v := Sum.inl (Value.double x)) rfl rfl hl') (hO.pop.put trivial))
  · cases h9
theorem am_s_dstore {K : AKx} {p : Program} {l : Launch} {e : Env} {R : Room} {s : State} {m : MethodId} {args : Array Value} {below : List Frame} {meth : Method} {c : Code} {bytes : ByteArray} {mr : MR} {o : AO} {h1 : AH} {ih : AK} {pc len tgt d : Nat} {r : List CI} {ls : AL} {st : List AV} {h : AH} {k : Nat} (hx : p.tables.exec = Jvm.exec) (hb : c.code = bytes) (hk : k + 1 < mr.2.1) (hdec : decode bytes pc = .ok (.dstore k, 2)) (nx : am_Nx K p l e R s m args below meth c mr o h1 (pc + 2) d ih r) (hrun : am_step ih mr ((pc, .dstore k, len, tgt) :: r) ls st h d = some (o, h1)) : am_G K p l e R s m args below meth c mr o h1 pc ls st h := by
  intro va H locs cells slots lsr hR hS hc hs hL hO
  have h9 : (match (generalizing := false) st with | Sum.inl (Value.double x) :: t => ih mr r (am_put ls k (Sum.inl (Value.double x))) t h d | _ => none) = some (o, h1) := hrun
  split at h9
  · next x t => exact lv_dstore hx hb hdec hL.has hk rfl (fun lsr' hl' => nx _ _ _ h9 va H locs cells slots lsr' hR hS hc hs (am_LR.put2 (v := Sum.inl (Value.double x)) rfl rfl hl') (hO.pop.put trivial))
  · cases h9
theorem am_s_lstore_n {K : AKx} {p : Program} {l : Launch} {e : Env} {R : Room} {s : State} {m : MethodId} {args : Array Value} {below : List Frame} {meth : Method} {c : Code} {bytes : ByteArray} {mr : MR} {o : AO} {h1 : AH} {ih : AK} {pc len tgt d : Nat} {r : List CI} {ls : AL} {st : List AV} {h : AH} {k : Fin 4} (hx : p.tables.exec = Jvm.exec) (hb : c.code = bytes) (hk : k.val + 1 < mr.2.1) (hdec : decode bytes pc = .ok (.lstore_n k, 1)) (nx : am_Nx K p l e R s m args below meth c mr o h1 (pc + 1) d ih r) (hrun : am_step ih mr ((pc, .lstore_n k, len, tgt) :: r) ls st h d = some (o, h1)) : am_G K p l e R s m args below meth c mr o h1 pc ls st h := by
  intro va H locs cells slots lsr hR hS hc hs hL hO
  have h9 : (match (generalizing := false) st with | Sum.inl (Value.long x) :: t => ih mr r (am_put ls k.val (Sum.inl (Value.long x))) t h d | _ => none) = some (o, h1) := hrun
  split at h9
  · next x t => exact lv_lstore_n hx hb hdec rfl hL.has hk rfl (fun lsr' hl' => nx _ _ _ h9 va H locs cells slots lsr' hR hS hc hs (am_LR.put2 (v := Sum.inl (Value.long x)) rfl rfl hl') (hO.pop.put trivial))
  · cases h9
theorem am_s_lstore {K : AKx} {p : Program} {l : Launch} {e : Env} {R : Room} {s : State} {m : MethodId} {args : Array Value} {below : List Frame} {meth : Method} {c : Code} {bytes : ByteArray} {mr : MR} {o : AO} {h1 : AH} {ih : AK} {pc len tgt d : Nat} {r : List CI} {ls : AL} {st : List AV} {h : AH} {k : Nat} (hx : p.tables.exec = Jvm.exec) (hb : c.code = bytes) (hk : k + 1 < mr.2.1) (hdec : decode bytes pc = .ok (.lstore k, 2)) (nx : am_Nx K p l e R s m args below meth c mr o h1 (pc + 2) d ih r) (hrun : am_step ih mr ((pc, .lstore k, len, tgt) :: r) ls st h d = some (o, h1)) : am_G K p l e R s m args below meth c mr o h1 pc ls st h := by
  intro va H locs cells slots lsr hR hS hc hs hL hO
  have h9 : (match (generalizing := false) st with | Sum.inl (Value.long x) :: t => ih mr r (am_put ls k (Sum.inl (Value.long x))) t h d | _ => none) = some (o, h1) := hrun
  split at h9
  · next x t => exact lv_lstore hx hb hdec hL.has hk rfl (fun lsr' hl' => nx _ _ _ h9 va H locs cells slots lsr' hR hS hc hs (am_LR.put2 (v := Sum.inl (Value.long x)) rfl rfl hl') (hO.pop.put trivial))
  · cases h9
theorem am_s_astore_n {K : AKx} {p : Program} {l : Launch} {e : Env} {R : Room} {s : State} {m : MethodId} {args : Array Value} {below : List Frame} {meth : Method} {c : Code} {bytes : ByteArray} {mr : MR} {o : AO} {h1 : AH} {ih : AK} {pc len tgt d : Nat} {r : List CI} {ls : AL} {st : List AV} {h : AH} {k : Fin 4} (hx : p.tables.exec = Jvm.exec) (hb : c.code = bytes) (hk : k.val < mr.2.1) (hdec : decode bytes pc = .ok (.astore_n k, 1)) (nx : am_Nx K p l e R s m args below meth c mr o h1 (pc + 1) d ih r) (hrun : am_step ih mr ((pc, .astore_n k, len, tgt) :: r) ls st h d = some (o, h1)) : am_G K p l e R s m args below meth c mr o h1 pc ls st h := by
  intro va H locs cells slots lsr hR hS hc hs hL hO
  have h9 : (match (generalizing := false) st with | Sum.inr a :: t => ih mr r (am_put ls k.val (Sum.inr a)) t h d | Sum.inl Value.null :: t => ih mr r (am_put ls k.val (Sum.inl Value.null)) t h d | _ => none) = some (o, h1) := hrun
  split at h9
  · next a t => exact lv_astore_n hx hb hdec rfl hL.has hk rfl (fun lsr' hl' => nx _ _ _ h9 va H locs cells slots lsr' hR hS hc hs (am_LR.put1 (v := Sum.inr a) rfl hl') (hO.pop.put hO.top))
  · next t => exact lv_astore_nN hx hb hdec rfl hL.has hk rfl (fun lsr' hl' => nx _ _ _ h9 va H locs cells slots lsr' hR hS hc hs (am_LR.put1 (v := Sum.inl Value.null) rfl hl') (hO.pop.put trivial))
  · cases h9
theorem am_s_astore {K : AKx} {p : Program} {l : Launch} {e : Env} {R : Room} {s : State} {m : MethodId} {args : Array Value} {below : List Frame} {meth : Method} {c : Code} {bytes : ByteArray} {mr : MR} {o : AO} {h1 : AH} {ih : AK} {pc len tgt d : Nat} {r : List CI} {ls : AL} {st : List AV} {h : AH} {k : Nat} (hx : p.tables.exec = Jvm.exec) (hb : c.code = bytes) (hk : k < mr.2.1) (hdec : decode bytes pc = .ok (.astore k, 2)) (nx : am_Nx K p l e R s m args below meth c mr o h1 (pc + 2) d ih r) (hrun : am_step ih mr ((pc, .astore k, len, tgt) :: r) ls st h d = some (o, h1)) : am_G K p l e R s m args below meth c mr o h1 pc ls st h := by
  intro va H locs cells slots lsr hR hS hc hs hL hO
  have h9 : (match (generalizing := false) st with | Sum.inr a :: t => ih mr r (am_put ls k (Sum.inr a)) t h d | Sum.inl Value.null :: t => ih mr r (am_put ls k (Sum.inl Value.null)) t h d | _ => none) = some (o, h1) := hrun
  split at h9
  · next a t => exact lv_astore hx hb hdec hL.has hk rfl (fun lsr' hl' => nx _ _ _ h9 va H locs cells slots lsr' hR hS hc hs (am_LR.put1 (v := Sum.inr a) rfl hl') (hO.pop.put hO.top))
  · next t => exact lv_astoreN hx hb hdec hL.has hk rfl (fun lsr' hl' => nx _ _ _ h9 va H locs cells slots lsr' hR hS hc hs (am_LR.put1 (v := Sum.inl Value.null) rfl hl') (hO.pop.put trivial))
  · cases h9
theorem am_s_iinc {K : AKx} {p : Program} {l : Launch} {e : Env} {R : Room} {s : State} {m : MethodId} {args : Array Value} {below : List Frame} {meth : Method} {c : Code} {bytes : ByteArray} {mr : MR} {o : AO} {h1 : AH} {ih : AK} {pc len tgt d : Nat} {r : List CI} {ls : AL} {st : List AV} {h : AH} {k : Nat} {n : Int} (hx : p.tables.exec = Jvm.exec) (hb : c.code = bytes) (hk : k < mr.2.1) (hdec : decode bytes pc = .ok (.iinc k n, 3)) (nx : am_Nx K p l e R s m args below meth c mr o h1 (pc + 3) d ih r) (hrun : am_step ih mr ((pc, .iinc k n, len, tgt) :: r) ls st h d = some (o, h1)) : am_G K p l e R s m args below meth c mr o h1 pc ls st h := by
  intro va H locs cells slots lsr hR hS hc hs hL hO
  have h9 : (match am_get ls k with | some (Sum.inl (Value.int x)) => ih mr r (am_put ls k (vi (x + Int32.ofInt n))) st h d | _ => none) = some (o, h1) := hrun
  split at h9
  · next x hg =>
    obtain ⟨j, hj⟩ := List.getElem?_of_mem (am_al_in (K := K) (va := va) (am_get_at hg))
    exact lv_iinc hx hb hdec hL.has hj rfl hk rfl (fun lsr' hl' => nx _ _ _ h9 va H locs cells slots lsr' hR hS hc hs (am_LR.put1 (v := vi (x + Int32.ofInt n)) rfl hl') (hO.put trivial))
  · cases h9
theorem am_cat1 {K : AKx} {va : Nat → Nat} {v : AV} (h : am_cat2 v = false) : (am_rv K va v).category = 1 := by
  rw [am_cat, h]; rfl
theorem am_s_dup {K : AKx} {p : Program} {l : Launch} {e : Env} {R : Room} {s : State} {m : MethodId} {args : Array Value} {below : List Frame} {meth : Method} {c : Code} {bytes : ByteArray} {mr : MR} {o : AO} {h1 : AH} {ih : AK} {pc len tgt d : Nat} {r : List CI} {ls : AL} {st : List AV} {h : AH}  (hx : p.tables.exec = Jvm.exec) (hb : c.code = bytes)  (hdec : decode bytes pc = .ok (.dup, 1)) (nx : am_Nx K p l e R s m args below meth c mr o h1 (pc + 1) d ih r) (hrun : am_step ih mr ((pc, .dup, len, tgt) :: r) ls st h d = some (o, h1)) : am_G K p l e R s m args below meth c mr o h1 pc ls st h := by
  intro va H locs cells slots lsr hR hS hc hs hL hO
  have h9 : (match (generalizing := false) st with | v :: t => bif am_cat2 v then none else ih mr r ls (v :: v :: t) h d | _ => none) = some (o, h1) := hrun
  split at h9
  · next v t =>
    cases hv : (am_cat2 v) with
    | true => rw [hv] at h9; cases h9
    | false =>
      rw [hv] at h9
      exact lv_dup hx hb hdec (am_cat1 hv) (nx _ _ _ h9 va H locs cells slots lsr hR hS hc hs hL (hO.push hO.top))
  · cases h9
theorem am_s_pop {K : AKx} {p : Program} {l : Launch} {e : Env} {R : Room} {s : State} {m : MethodId} {args : Array Value} {below : List Frame} {meth : Method} {c : Code} {bytes : ByteArray} {mr : MR} {o : AO} {h1 : AH} {ih : AK} {pc len tgt d : Nat} {r : List CI} {ls : AL} {st : List AV} {h : AH}  (hx : p.tables.exec = Jvm.exec) (hb : c.code = bytes)  (hdec : decode bytes pc = .ok (.pop, 1)) (nx : am_Nx K p l e R s m args below meth c mr o h1 (pc + 1) d ih r) (hrun : am_step ih mr ((pc, .pop, len, tgt) :: r) ls st h d = some (o, h1)) : am_G K p l e R s m args below meth c mr o h1 pc ls st h := by
  intro va H locs cells slots lsr hR hS hc hs hL hO
  have h9 : (match (generalizing := false) st with | v :: t => bif am_cat2 v then none else ih mr r ls (t) h d | _ => none) = some (o, h1) := hrun
  split at h9
  · next v t =>
    cases hv : (am_cat2 v) with
    | true => rw [hv] at h9; cases h9
    | false =>
      rw [hv] at h9
      exact lv_pop hx hb hdec (am_cat1 hv) (nx _ _ _ h9 va H locs cells slots lsr hR hS hc hs hL (hO.pop))
  · cases h9
theorem am_s_dup_x1 {K : AKx} {p : Program} {l : Launch} {e : Env} {R : Room} {s : State} {m : MethodId} {args : Array Value} {below : List Frame} {meth : Method} {c : Code} {bytes : ByteArray} {mr : MR} {o : AO} {h1 : AH} {ih : AK} {pc len tgt d : Nat} {r : List CI} {ls : AL} {st : List AV} {h : AH}  (hx : p.tables.exec = Jvm.exec) (hb : c.code = bytes)  (hdec : decode bytes pc = .ok (.dup_x1, 1)) (nx : am_Nx K p l e R s m args below meth c mr o h1 (pc + 1) d ih r) (hrun : am_step ih mr ((pc, .dup_x1, len, tgt) :: r) ls st h d = some (o, h1)) : am_G K p l e R s m args below meth c mr o h1 pc ls st h := by
  intro va H locs cells slots lsr hR hS hc hs hL hO
  have h9 : (match (generalizing := false) st with | v :: w :: t => bif am_cat2 v || am_cat2 w then none else ih mr r ls (v :: w :: v :: t) h d | _ => none) = some (o, h1) := hrun
  split at h9
  · next v w t =>
    cases hv : (am_cat2 v || am_cat2 w) with
    | true => rw [hv] at h9; cases h9
    | false =>
      rw [hv] at h9
      have hv := Bool.or_eq_false_iff.mp hv
      exact lv_dup_x1 hx hb hdec (am_cat1 hv.1) (am_cat1 hv.2) (nx _ _ _ h9 va H locs cells slots lsr hR hS hc hs hL (((hO.pop.pop.push hO.top).push hO.pop.top).push hO.top))
  · cases h9
theorem am_s_dup2 {K : AKx} {p : Program} {l : Launch} {e : Env} {R : Room} {s : State} {m : MethodId} {args : Array Value} {below : List Frame} {meth : Method} {c : Code} {bytes : ByteArray} {mr : MR} {o : AO} {h1 : AH} {ih : AK} {pc len tgt d : Nat} {r : List CI} {ls : AL} {st : List AV} {h : AH}  (hx : p.tables.exec = Jvm.exec) (hb : c.code = bytes)  (hdec : decode bytes pc = .ok (.dup2, 1)) (nx : am_Nx K p l e R s m args below meth c mr o h1 (pc + 1) d ih r) (hrun : am_step ih mr ((pc, .dup2, len, tgt) :: r) ls st h d = some (o, h1)) : am_G K p l e R s m args below meth c mr o h1 pc ls st h := by
  intro va H locs cells slots lsr hR hS hc hs hL hO
  have h9 : (match (generalizing := false) st with | v :: w :: t => bif am_cat2 v || am_cat2 w then none else ih mr r ls (v :: w :: v :: w :: t) h d | _ => none) = some (o, h1) := hrun
  split at h9
  · next v w t =>
    cases hv : (am_cat2 v || am_cat2 w) with
    | true => rw [hv] at h9; cases h9
    | false =>
      rw [hv] at h9
      have hv := Bool.or_eq_false_iff.mp hv
      exact lv_dup2_11 hx hb hdec (am_cat1 hv.1) (am_cat1 hv.2) (nx _ _ _ h9 va H locs cells slots lsr hR hS hc hs hL ((hO.push hO.pop.top).push hO.top))
  · cases h9
theorem am_s_iadd {K : AKx} {p : Program} {l : Launch} {e : Env} {R : Room} {s : State} {m : MethodId} {args : Array Value} {below : List Frame} {meth : Method} {c : Code} {bytes : ByteArray} {mr : MR} {o : AO} {h1 : AH} {ih : AK} {pc len tgt d : Nat} {r : List CI} {ls : AL} {st : List AV} {h : AH}  (hx : p.tables.exec = Jvm.exec) (hb : c.code = bytes)  (hdec : decode bytes pc = .ok (.iadd, 1)) (nx : am_Nx K p l e R s m args below meth c mr o h1 (pc + 1) d ih r) (hrun : am_step ih mr ((pc, .iadd, len, tgt) :: r) ls st h d = some (o, h1)) : am_G K p l e R s m args below meth c mr o h1 pc ls st h := by
  intro va H locs cells slots lsr hR hS hc hs hL hO
  have h9 : (match (generalizing := false) st with | Sum.inl (Value.int y) :: Sum.inl (Value.int x) :: t => ih mr r ls (vi (x + y) :: t) h d | _ => none) = some (o, h1) := hrun
  split at h9
  · exact lv_iadd hx hb hdec (nx _ _ _ h9 va H locs cells slots lsr hR hS hc hs hL (hO.pop.pop.num))
  · cases h9
theorem am_s_isub {K : AKx} {p : Program} {l : Launch} {e : Env} {R : Room} {s : State} {m : MethodId} {args : Array Value} {below : List Frame} {meth : Method} {c : Code} {bytes : ByteArray} {mr : MR} {o : AO} {h1 : AH} {ih : AK} {pc len tgt d : Nat} {r : List CI} {ls : AL} {st : List AV} {h : AH}  (hx : p.tables.exec = Jvm.exec) (hb : c.code = bytes)  (hdec : decode bytes pc = .ok (.isub, 1)) (nx : am_Nx K p l e R s m args below meth c mr o h1 (pc + 1) d ih r) (hrun : am_step ih mr ((pc, .isub, len, tgt) :: r) ls st h d = some (o, h1)) : am_G K p l e R s m args below meth c mr o h1 pc ls st h := by
  intro va H locs cells slots lsr hR hS hc hs hL hO
  have h9 : (match (generalizing := false) st with | Sum.inl (Value.int y) :: Sum.inl (Value.int x) :: t => ih mr r ls (vi (x - y) :: t) h d | _ => none) = some (o, h1) := hrun
  split at h9
  · exact lv_isub hx hb hdec (nx _ _ _ h9 va H locs cells slots lsr hR hS hc hs hL (hO.pop.pop.num))
  · cases h9
theorem am_s_imul {K : AKx} {p : Program} {l : Launch} {e : Env} {R : Room} {s : State} {m : MethodId} {args : Array Value} {below : List Frame} {meth : Method} {c : Code} {bytes : ByteArray} {mr : MR} {o : AO} {h1 : AH} {ih : AK} {pc len tgt d : Nat} {r : List CI} {ls : AL} {st : List AV} {h : AH}  (hx : p.tables.exec = Jvm.exec) (hb : c.code = bytes)  (hdec : decode bytes pc = .ok (.imul, 1)) (nx : am_Nx K p l e R s m args below meth c mr o h1 (pc + 1) d ih r) (hrun : am_step ih mr ((pc, .imul, len, tgt) :: r) ls st h d = some (o, h1)) : am_G K p l e R s m args below meth c mr o h1 pc ls st h := by
  intro va H locs cells slots lsr hR hS hc hs hL hO
  have h9 : (match (generalizing := false) st with | Sum.inl (Value.int y) :: Sum.inl (Value.int x) :: t => ih mr r ls (vi (x * y) :: t) h d | _ => none) = some (o, h1) := hrun
  split at h9
  · exact lv_imul hx hb hdec (nx _ _ _ h9 va H locs cells slots lsr hR hS hc hs hL (hO.pop.pop.num))
  · cases h9
theorem am_s_iand {K : AKx} {p : Program} {l : Launch} {e : Env} {R : Room} {s : State} {m : MethodId} {args : Array Value} {below : List Frame} {meth : Method} {c : Code} {bytes : ByteArray} {mr : MR} {o : AO} {h1 : AH} {ih : AK} {pc len tgt d : Nat} {r : List CI} {ls : AL} {st : List AV} {h : AH}  (hx : p.tables.exec = Jvm.exec) (hb : c.code = bytes)  (hdec : decode bytes pc = .ok (.iand, 1)) (nx : am_Nx K p l e R s m args below meth c mr o h1 (pc + 1) d ih r) (hrun : am_step ih mr ((pc, .iand, len, tgt) :: r) ls st h d = some (o, h1)) : am_G K p l e R s m args below meth c mr o h1 pc ls st h := by
  intro va H locs cells slots lsr hR hS hc hs hL hO
  have h9 : (match (generalizing := false) st with | Sum.inl (Value.int y) :: Sum.inl (Value.int x) :: t => ih mr r ls (vi (x &&& y) :: t) h d | _ => none) = some (o, h1) := hrun
  split at h9
  · exact lv_iand hx hb hdec (nx _ _ _ h9 va H locs cells slots lsr hR hS hc hs hL (hO.pop.pop.num))
  · cases h9
theorem am_s_ior {K : AKx} {p : Program} {l : Launch} {e : Env} {R : Room} {s : State} {m : MethodId} {args : Array Value} {below : List Frame} {meth : Method} {c : Code} {bytes : ByteArray} {mr : MR} {o : AO} {h1 : AH} {ih : AK} {pc len tgt d : Nat} {r : List CI} {ls : AL} {st : List AV} {h : AH}  (hx : p.tables.exec = Jvm.exec) (hb : c.code = bytes)  (hdec : decode bytes pc = .ok (.ior, 1)) (nx : am_Nx K p l e R s m args below meth c mr o h1 (pc + 1) d ih r) (hrun : am_step ih mr ((pc, .ior, len, tgt) :: r) ls st h d = some (o, h1)) : am_G K p l e R s m args below meth c mr o h1 pc ls st h := by
  intro va H locs cells slots lsr hR hS hc hs hL hO
  have h9 : (match (generalizing := false) st with | Sum.inl (Value.int y) :: Sum.inl (Value.int x) :: t => ih mr r ls (vi (x ||| y) :: t) h d | _ => none) = some (o, h1) := hrun
  split at h9
  · exact lv_ior hx hb hdec (nx _ _ _ h9 va H locs cells slots lsr hR hS hc hs hL (hO.pop.pop.num))
  · cases h9
theorem am_s_ixor {K : AKx} {p : Program} {l : Launch} {e : Env} {R : Room} {s : State} {m : MethodId} {args : Array Value} {below : List Frame} {meth : Method} {c : Code} {bytes : ByteArray} {mr : MR} {o : AO} {h1 : AH} {ih : AK} {pc len tgt d : Nat} {r : List CI} {ls : AL} {st : List AV} {h : AH}  (hx : p.tables.exec = Jvm.exec) (hb : c.code = bytes)  (hdec : decode bytes pc = .ok (.ixor, 1)) (nx : am_Nx K p l e R s m args below meth c mr o h1 (pc + 1) d ih r) (hrun : am_step ih mr ((pc, .ixor, len, tgt) :: r) ls st h d = some (o, h1)) : am_G K p l e R s m args below meth c mr o h1 pc ls st h := by
  intro va H locs cells slots lsr hR hS hc hs hL hO
  have h9 : (match (generalizing := false) st with | Sum.inl (Value.int y) :: Sum.inl (Value.int x) :: t => ih mr r ls (vi (x ^^^ y) :: t) h d | _ => none) = some (o, h1) := hrun
  split at h9
  · exact lv_ixor hx hb hdec (nx _ _ _ h9 va H locs cells slots lsr hR hS hc hs hL (hO.pop.pop.num))
  · cases h9
theorem am_s_ishl {K : AKx} {p : Program} {l : Launch} {e : Env} {R : Room} {s : State} {m : MethodId} {args : Array Value} {below : List Frame} {meth : Method} {c : Code} {bytes : ByteArray} {mr : MR} {o : AO} {h1 : AH} {ih : AK} {pc len tgt d : Nat} {r : List CI} {ls : AL} {st : List AV} {h : AH}  (hx : p.tables.exec = Jvm.exec) (hb : c.code = bytes)  (hdec : decode bytes pc = .ok (.ishl, 1)) (nx : am_Nx K p l e R s m args below meth c mr o h1 (pc + 1) d ih r) (hrun : am_step ih mr ((pc, .ishl, len, tgt) :: r) ls st h d = some (o, h1)) : am_G K p l e R s m args below meth c mr o h1 pc ls st h := by
  intro va H locs cells slots lsr hR hS hc hs hL hO
  have h9 : (match (generalizing := false) st with | Sum.inl (Value.int y) :: Sum.inl (Value.int x) :: t => ih mr r ls (vi (x <<< (y &&& 31)) :: t) h d | _ => none) = some (o, h1) := hrun
  split at h9
  · exact lv_ishl hx hb hdec (nx _ _ _ h9 va H locs cells slots lsr hR hS hc hs hL (hO.pop.pop.num))
  · cases h9
theorem am_s_ishr {K : AKx} {p : Program} {l : Launch} {e : Env} {R : Room} {s : State} {m : MethodId} {args : Array Value} {below : List Frame} {meth : Method} {c : Code} {bytes : ByteArray} {mr : MR} {o : AO} {h1 : AH} {ih : AK} {pc len tgt d : Nat} {r : List CI} {ls : AL} {st : List AV} {h : AH}  (hx : p.tables.exec = Jvm.exec) (hb : c.code = bytes)  (hdec : decode bytes pc = .ok (.ishr, 1)) (nx : am_Nx K p l e R s m args below meth c mr o h1 (pc + 1) d ih r) (hrun : am_step ih mr ((pc, .ishr, len, tgt) :: r) ls st h d = some (o, h1)) : am_G K p l e R s m args below meth c mr o h1 pc ls st h := by
  intro va H locs cells slots lsr hR hS hc hs hL hO
  have h9 : (match (generalizing := false) st with | Sum.inl (Value.int y) :: Sum.inl (Value.int x) :: t => ih mr r ls (vi (x >>> (y &&& 31)) :: t) h d | _ => none) = some (o, h1) := hrun
  split at h9
  · exact lv_ishr hx hb hdec (nx _ _ _ h9 va H locs cells slots lsr hR hS hc hs hL (hO.pop.pop.num))
  · cases h9
theorem am_s_iushr {K : AKx} {p : Program} {l : Launch} {e : Env} {R : Room} {s : State} {m : MethodId} {args : Array Value} {below : List Frame} {meth : Method} {c : Code} {bytes : ByteArray} {mr : MR} {o : AO} {h1 : AH} {ih : AK} {pc len tgt d : Nat} {r : List CI} {ls : AL} {st : List AV} {h : AH}  (hx : p.tables.exec = Jvm.exec) (hb : c.code = bytes)  (hdec : decode bytes pc = .ok (.iushr, 1)) (nx : am_Nx K p l e R s m args below meth c mr o h1 (pc + 1) d ih r) (hrun : am_step ih mr ((pc, .iushr, len, tgt) :: r) ls st h d = some (o, h1)) : am_G K p l e R s m args below meth c mr o h1 pc ls st h := by
  intro va H locs cells slots lsr hR hS hc hs hL hO
  have h9 : (match (generalizing := false) st with | Sum.inl (Value.int y) :: Sum.inl (Value.int x) :: t => ih mr r ls (vi ((x.toUInt32 >>> (y.toUInt32 &&& Int32.toUInt32 31)).toInt32) :: t) h d | _ => none) = some (o, h1) := hrun
  split at h9
  · exact lv_iushr hx hb hdec rfl (nx _ _ _ h9 va H locs cells slots lsr hR hS hc hs hL (hO.pop.pop.num))
  · cases h9
theorem am_s_idiv {K : AKx} {p : Program} {l : Launch} {e : Env} {R : Room} {s : State} {m : MethodId} {args : Array Value} {below : List Frame} {meth : Method} {c : Code} {bytes : ByteArray} {mr : MR} {o : AO} {h1 : AH} {ih : AK} {pc len tgt d : Nat} {r : List CI} {ls : AL} {st : List AV} {h : AH}  (hx : p.tables.exec = Jvm.exec) (hb : c.code = bytes)  (hdec : decode bytes pc = .ok (.idiv, 1)) (nx : am_Nx K p l e R s m args below meth c mr o h1 (pc + 1) d ih r) (hrun : am_step ih mr ((pc, .idiv, len, tgt) :: r) ls st h d = some (o, h1)) : am_G K p l e R s m args below meth c mr o h1 pc ls st h := by
  intro va H locs cells slots lsr hR hS hc hs hL hO
  have h9 : (match (generalizing := false) st with | Sum.inl (Value.int y) :: Sum.inl (Value.int x) :: t => if y = 0 then none else ih mr r ls (vi (x / y) :: t) h d | _ => none) = some (o, h1) := hrun
  split at h9
  · split at h9
    · cases h9
    · next hy => exact lv_idiv hx hb hdec hy (nx _ _ _ h9 va H locs cells slots lsr hR hS hc hs hL (hO.pop.pop.num))
  · cases h9
theorem am_s_irem {K : AKx} {p : Program} {l : Launch} {e : Env} {R : Room} {s : State} {m : MethodId} {args : Array Value} {below : List Frame} {meth : Method} {c : Code} {bytes : ByteArray} {mr : MR} {o : AO} {h1 : AH} {ih : AK} {pc len tgt d : Nat} {r : List CI} {ls : AL} {st : List AV} {h : AH}  (hx : p.tables.exec = Jvm.exec) (hb : c.code = bytes)  (hdec : decode bytes pc = .ok (.irem, 1)) (nx : am_Nx K p l e R s m args below meth c mr o h1 (pc + 1) d ih r) (hrun : am_step ih mr ((pc, .irem, len, tgt) :: r) ls st h d = some (o, h1)) : am_G K p l e R s m args below meth c mr o h1 pc ls st h := by
  intro va H locs cells slots lsr hR hS hc hs hL hO
  have h9 : (match (generalizing := false) st with | Sum.inl (Value.int y) :: Sum.inl (Value.int x) :: t => if y = 0 then none else ih mr r ls (vi (x - x / y * y) :: t) h d | _ => none) = some (o, h1) := hrun
  split at h9
  · split at h9
    · cases h9
    · next hy => exact lv_irem hx hb hdec hy (nx _ _ _ h9 va H locs cells slots lsr hR hS hc hs hL (hO.pop.pop.num))
  · cases h9
theorem am_s_ineg {K : AKx} {p : Program} {l : Launch} {e : Env} {R : Room} {s : State} {m : MethodId} {args : Array Value} {below : List Frame} {meth : Method} {c : Code} {bytes : ByteArray} {mr : MR} {o : AO} {h1 : AH} {ih : AK} {pc len tgt d : Nat} {r : List CI} {ls : AL} {st : List AV} {h : AH}  (hx : p.tables.exec = Jvm.exec) (hb : c.code = bytes)  (hdec : decode bytes pc = .ok (.ineg, 1)) (nx : am_Nx K p l e R s m args below meth c mr o h1 (pc + 1) d ih r) (hrun : am_step ih mr ((pc, .ineg, len, tgt) :: r) ls st h d = some (o, h1)) : am_G K p l e R s m args below meth c mr o h1 pc ls st h := by
  intro va H locs cells slots lsr hR hS hc hs hL hO
  have h9 : (match (generalizing := false) st with | Sum.inl (Value.int x) :: t => ih mr r ls (vi (-x) :: t) h d | _ => none) = some (o, h1) := hrun
  split at h9
  · exact lv_ineg hx hb hdec (nx _ _ _ h9 va H locs cells slots lsr hR hS hc hs hL (hO.pop.num))
  · cases h9
theorem am_s_i2b {K : AKx} {p : Program} {l : Launch} {e : Env} {R : Room} {s : State} {m : MethodId} {args : Array Value} {below : List Frame} {meth : Method} {c : Code} {bytes : ByteArray} {mr : MR} {o : AO} {h1 : AH} {ih : AK} {pc len tgt d : Nat} {r : List CI} {ls : AL} {st : List AV} {h : AH}  (hx : p.tables.exec = Jvm.exec) (hb : c.code = bytes)  (hdec : decode bytes pc = .ok (.i2b, 1)) (nx : am_Nx K p l e R s m args below meth c mr o h1 (pc + 1) d ih r) (hrun : am_step ih mr ((pc, .i2b, len, tgt) :: r) ls st h d = some (o, h1)) : am_G K p l e R s m args below meth c mr o h1 pc ls st h := by
  intro va H locs cells slots lsr hR hS hc hs hL hO
  have h9 : (match (generalizing := false) st with | Sum.inl (Value.int x) :: t => ih mr r ls (vi x.toInt8.toInt32 :: t) h d | _ => none) = some (o, h1) := hrun
  split at h9
  · exact lv_i2b hx hb hdec rfl (nx _ _ _ h9 va H locs cells slots lsr hR hS hc hs hL (hO.pop.num))
  · cases h9
theorem am_s_i2c {K : AKx} {p : Program} {l : Launch} {e : Env} {R : Room} {s : State} {m : MethodId} {args : Array Value} {below : List Frame} {meth : Method} {c : Code} {bytes : ByteArray} {mr : MR} {o : AO} {h1 : AH} {ih : AK} {pc len tgt d : Nat} {r : List CI} {ls : AL} {st : List AV} {h : AH}  (hx : p.tables.exec = Jvm.exec) (hb : c.code = bytes)  (hdec : decode bytes pc = .ok (.i2c, 1)) (nx : am_Nx K p l e R s m args below meth c mr o h1 (pc + 1) d ih r) (hrun : am_step ih mr ((pc, .i2c, len, tgt) :: r) ls st h d = some (o, h1)) : am_G K p l e R s m args below meth c mr o h1 pc ls st h := by
  intro va H locs cells slots lsr hR hS hc hs hL hO
  have h9 : (match (generalizing := false) st with | Sum.inl (Value.int x) :: t => ih mr r ls (vi (x.toUInt32 % 65536).toInt32 :: t) h d | _ => none) = some (o, h1) := hrun
  split at h9
  · exact lv_i2c hx hb hdec rfl (nx _ _ _ h9 va H locs cells slots lsr hR hS hc hs hL (hO.pop.num))
  · cases h9
theorem am_s_i2l {K : AKx} {p : Program} {l : Launch} {e : Env} {R : Room} {s : State} {m : MethodId} {args : Array Value} {below : List Frame} {meth : Method} {c : Code} {bytes : ByteArray} {mr : MR} {o : AO} {h1 : AH} {ih : AK} {pc len tgt d : Nat} {r : List CI} {ls : AL} {st : List AV} {h : AH}  (hx : p.tables.exec = Jvm.exec) (hb : c.code = bytes)  (hdec : decode bytes pc = .ok (.i2l, 1)) (nx : am_Nx K p l e R s m args below meth c mr o h1 (pc + 1) d ih r) (hrun : am_step ih mr ((pc, .i2l, len, tgt) :: r) ls st h d = some (o, h1)) : am_G K p l e R s m args below meth c mr o h1 pc ls st h := by
  intro va H locs cells slots lsr hR hS hc hs hL hO
  have h9 : (match (generalizing := false) st with | Sum.inl (Value.int x) :: t => ih mr r ls (Sum.inl (Value.long x.toInt64) :: t) h d | _ => none) = some (o, h1) := hrun
  split at h9
  · exact lv_i2l hx hb hdec rfl (nx _ _ _ h9 va H locs cells slots lsr hR hS hc hs hL (hO.pop.num))
  · cases h9
theorem am_s_i2d {K : AKx} {p : Program} {l : Launch} {e : Env} {R : Room} {s : State} {m : MethodId} {args : Array Value} {below : List Frame} {meth : Method} {c : Code} {bytes : ByteArray} {mr : MR} {o : AO} {h1 : AH} {ih : AK} {pc len tgt d : Nat} {r : List CI} {ls : AL} {st : List AV} {h : AH}  (hx : p.tables.exec = Jvm.exec) (hb : c.code = bytes)  (hdec : decode bytes pc = .ok (.i2d, 1)) (nx : am_Nx K p l e R s m args below meth c mr o h1 (pc + 1) d ih r) (hrun : am_step ih mr ((pc, .i2d, len, tgt) :: r) ls st h d = some (o, h1)) : am_G K p l e R s m args below meth c mr o h1 pc ls st h := by
  intro va H locs cells slots lsr hR hS hc hs hL hO
  have h9 : (match (generalizing := false) st with | Sum.inl (Value.int x) :: t => ih mr r ls (Sum.inl (Value.double (FP.i2d x)) :: t) h d | _ => none) = some (o, h1) := hrun
  split at h9
  · exact lv_i2d hx hb hdec (nx _ _ _ h9 va H locs cells slots lsr hR hS hc hs hL (hO.pop.num))
  · cases h9
theorem am_s_i2f {K : AKx} {p : Program} {l : Launch} {e : Env} {R : Room} {s : State} {m : MethodId} {args : Array Value} {below : List Frame} {meth : Method} {c : Code} {bytes : ByteArray} {mr : MR} {o : AO} {h1 : AH} {ih : AK} {pc len tgt d : Nat} {r : List CI} {ls : AL} {st : List AV} {h : AH}  (hx : p.tables.exec = Jvm.exec) (hb : c.code = bytes)  (hdec : decode bytes pc = .ok (.i2f, 1)) (nx : am_Nx K p l e R s m args below meth c mr o h1 (pc + 1) d ih r) (hrun : am_step ih mr ((pc, .i2f, len, tgt) :: r) ls st h d = some (o, h1)) : am_G K p l e R s m args below meth c mr o h1 pc ls st h := by
  intro va H locs cells slots lsr hR hS hc hs hL hO
  have h9 : (match (generalizing := false) st with | Sum.inl (Value.int x) :: t => ih mr r ls (Sum.inl (Value.float (FP.i2f x)) :: t) h d | _ => none) = some (o, h1) := hrun
  split at h9
  · exact lv_i2f hx hb hdec (nx _ _ _ h9 va H locs cells slots lsr hR hS hc hs hL (hO.pop.num))
  · cases h9
theorem am_s_ladd {K : AKx} {p : Program} {l : Launch} {e : Env} {R : Room} {s : State} {m : MethodId} {args : Array Value} {below : List Frame} {meth : Method} {c : Code} {bytes : ByteArray} {mr : MR} {o : AO} {h1 : AH} {ih : AK} {pc len tgt d : Nat} {r : List CI} {ls : AL} {st : List AV} {h : AH}  (hx : p.tables.exec = Jvm.exec) (hb : c.code = bytes)  (hdec : decode bytes pc = .ok (.ladd, 1)) (nx : am_Nx K p l e R s m args below meth c mr o h1 (pc + 1) d ih r) (hrun : am_step ih mr ((pc, .ladd, len, tgt) :: r) ls st h d = some (o, h1)) : am_G K p l e R s m args below meth c mr o h1 pc ls st h := by
  intro va H locs cells slots lsr hR hS hc hs hL hO
  have h9 : (match (generalizing := false) st with | Sum.inl (Value.long y) :: Sum.inl (Value.long x) :: t => ih mr r ls (Sum.inl (Value.long (x + y)) :: t) h d | _ => none) = some (o, h1) := hrun
  split at h9
  · exact lv_ladd hx hb hdec (nx _ _ _ h9 va H locs cells slots lsr hR hS hc hs hL (hO.pop.pop.num))
  · cases h9
theorem am_s_lsub {K : AKx} {p : Program} {l : Launch} {e : Env} {R : Room} {s : State} {m : MethodId} {args : Array Value} {below : List Frame} {meth : Method} {c : Code} {bytes : ByteArray} {mr : MR} {o : AO} {h1 : AH} {ih : AK} {pc len tgt d : Nat} {r : List CI} {ls : AL} {st : List AV} {h : AH}  (hx : p.tables.exec = Jvm.exec) (hb : c.code = bytes)  (hdec : decode bytes pc = .ok (.lsub, 1)) (nx : am_Nx K p l e R s m args below meth c mr o h1 (pc + 1) d ih r) (hrun : am_step ih mr ((pc, .lsub, len, tgt) :: r) ls st h d = some (o, h1)) : am_G K p l e R s m args below meth c mr o h1 pc ls st h := by
  intro va H locs cells slots lsr hR hS hc hs hL hO
  have h9 : (match (generalizing := false) st with | Sum.inl (Value.long y) :: Sum.inl (Value.long x) :: t => ih mr r ls (Sum.inl (Value.long (x - y)) :: t) h d | _ => none) = some (o, h1) := hrun
  split at h9
  · exact lv_lsub hx hb hdec (nx _ _ _ h9 va H locs cells slots lsr hR hS hc hs hL (hO.pop.pop.num))
  · cases h9
theorem am_s_lmul {K : AKx} {p : Program} {l : Launch} {e : Env} {R : Room} {s : State} {m : MethodId} {args : Array Value} {below : List Frame} {meth : Method} {c : Code} {bytes : ByteArray} {mr : MR} {o : AO} {h1 : AH} {ih : AK} {pc len tgt d : Nat} {r : List CI} {ls : AL} {st : List AV} {h : AH}  (hx : p.tables.exec = Jvm.exec) (hb : c.code = bytes)  (hdec : decode bytes pc = .ok (.lmul, 1)) (nx : am_Nx K p l e R s m args below meth c mr o h1 (pc + 1) d ih r) (hrun : am_step ih mr ((pc, .lmul, len, tgt) :: r) ls st h d = some (o, h1)) : am_G K p l e R s m args below meth c mr o h1 pc ls st h := by
  intro va H locs cells slots lsr hR hS hc hs hL hO
  have h9 : (match (generalizing := false) st with | Sum.inl (Value.long y) :: Sum.inl (Value.long x) :: t => ih mr r ls (Sum.inl (Value.long (x * y)) :: t) h d | _ => none) = some (o, h1) := hrun
  split at h9
  · exact lv_lmul hx hb hdec (nx _ _ _ h9 va H locs cells slots lsr hR hS hc hs hL (hO.pop.pop.num))
  · cases h9
theorem am_s_land {K : AKx} {p : Program} {l : Launch} {e : Env} {R : Room} {s : State} {m : MethodId} {args : Array Value} {below : List Frame} {meth : Method} {c : Code} {bytes : ByteArray} {mr : MR} {o : AO} {h1 : AH} {ih : AK} {pc len tgt d : Nat} {r : List CI} {ls : AL} {st : List AV} {h : AH}  (hx : p.tables.exec = Jvm.exec) (hb : c.code = bytes)  (hdec : decode bytes pc = .ok (.land, 1)) (nx : am_Nx K p l e R s m args below meth c mr o h1 (pc + 1) d ih r) (hrun : am_step ih mr ((pc, .land, len, tgt) :: r) ls st h d = some (o, h1)) : am_G K p l e R s m args below meth c mr o h1 pc ls st h := by
  intro va H locs cells slots lsr hR hS hc hs hL hO
  have h9 : (match (generalizing := false) st with | Sum.inl (Value.long y) :: Sum.inl (Value.long x) :: t => ih mr r ls (Sum.inl (Value.long (x &&& y)) :: t) h d | _ => none) = some (o, h1) := hrun
  split at h9
  · exact lv_land hx hb hdec (nx _ _ _ h9 va H locs cells slots lsr hR hS hc hs hL (hO.pop.pop.num))
  · cases h9
theorem am_s_lshl {K : AKx} {p : Program} {l : Launch} {e : Env} {R : Room} {s : State} {m : MethodId} {args : Array Value} {below : List Frame} {meth : Method} {c : Code} {bytes : ByteArray} {mr : MR} {o : AO} {h1 : AH} {ih : AK} {pc len tgt d : Nat} {r : List CI} {ls : AL} {st : List AV} {h : AH}  (hx : p.tables.exec = Jvm.exec) (hb : c.code = bytes)  (hdec : decode bytes pc = .ok (.lshl, 1)) (nx : am_Nx K p l e R s m args below meth c mr o h1 (pc + 1) d ih r) (hrun : am_step ih mr ((pc, .lshl, len, tgt) :: r) ls st h d = some (o, h1)) : am_G K p l e R s m args below meth c mr o h1 pc ls st h := by
  intro va H locs cells slots lsr hR hS hc hs hL hO
  have h9 : (match (generalizing := false) st with | Sum.inl (Value.int y) :: Sum.inl (Value.long x) :: t => ih mr r ls (Sum.inl (Value.long (x <<< (y.toInt64 &&& 63))) :: t) h d | _ => none) = some (o, h1) := hrun
  split at h9
  · exact lv_lshl hx hb hdec rfl (nx _ _ _ h9 va H locs cells slots lsr hR hS hc hs hL (hO.pop.pop.num))
  · cases h9
theorem am_s_lcmp {K : AKx} {p : Program} {l : Launch} {e : Env} {R : Room} {s : State} {m : MethodId} {args : Array Value} {below : List Frame} {meth : Method} {c : Code} {bytes : ByteArray} {mr : MR} {o : AO} {h1 : AH} {ih : AK} {pc len tgt d : Nat} {r : List CI} {ls : AL} {st : List AV} {h : AH}  (hx : p.tables.exec = Jvm.exec) (hb : c.code = bytes)  (hdec : decode bytes pc = .ok (.lcmp, 1)) (nx : am_Nx K p l e R s m args below meth c mr o h1 (pc + 1) d ih r) (hrun : am_step ih mr ((pc, .lcmp, len, tgt) :: r) ls st h d = some (o, h1)) : am_G K p l e R s m args below meth c mr o h1 pc ls st h := by
  intro va H locs cells slots lsr hR hS hc hs hL hO
  have h9 : (match (generalizing := false) st with | Sum.inl (Value.long y) :: Sum.inl (Value.long x) :: t => ih mr r ls (vi (lg_cmp x y) :: t) h d | _ => none) = some (o, h1) := hrun
  split at h9
  · exact W.lcmp hx hb hdec (nx _ _ _ h9 va H locs cells slots lsr hR hS hc hs hL (hO.pop.pop.num))
  · cases h9
theorem am_s_dcmp {K : AKx} {p : Program} {l : Launch} {e : Env} {R : Room} {s : State} {m : MethodId} {args : Array Value} {below : List Frame} {meth : Method} {c : Code} {bytes : ByteArray} {mr : MR} {o : AO} {h1 : AH} {ih : AK} {pc len tgt d : Nat} {r : List CI} {ls : AL} {st : List AV} {h : AH} {op : CmpOp} (hx : p.tables.exec = Jvm.exec) (hb : c.code = bytes)  (hdec : decode bytes pc = .ok (.dcmp op, 1)) (nx : am_Nx K p l e R s m args below meth c mr o h1 (pc + 1) d ih r) (hrun : am_step ih mr ((pc, .dcmp op, len, tgt) :: r) ls st h d = some (o, h1)) : am_G K p l e R s m args below meth c mr o h1 pc ls st h := by
  intro va H locs cells slots lsr hR hS hc hs hL hO
  have h9 : (match (generalizing := false) st with | Sum.inl (Value.double y) :: Sum.inl (Value.double x) :: t => ih mr r ls (vi (Op.cmpValue (FP.dcmp x y) op) :: t) h d | _ => none) = some (o, h1) := hrun
  split at h9
  · exact lv_dcmp hx hb hdec (nx _ _ _ h9 va H locs cells slots lsr hR hS hc hs hL (hO.pop.pop.num))
  · cases h9
theorem am_s_fcmp {K : AKx} {p : Program} {l : Launch} {e : Env} {R : Room} {s : State} {m : MethodId} {args : Array Value} {below : List Frame} {meth : Method} {c : Code} {bytes : ByteArray} {mr : MR} {o : AO} {h1 : AH} {ih : AK} {pc len tgt d : Nat} {r : List CI} {ls : AL} {st : List AV} {h : AH} {op : CmpOp} (hx : p.tables.exec = Jvm.exec) (hb : c.code = bytes)  (hdec : decode bytes pc = .ok (.fcmp op, 1)) (nx : am_Nx K p l e R s m args below meth c mr o h1 (pc + 1) d ih r) (hrun : am_step ih mr ((pc, .fcmp op, len, tgt) :: r) ls st h d = some (o, h1)) : am_G K p l e R s m args below meth c mr o h1 pc ls st h := by
  intro va H locs cells slots lsr hR hS hc hs hL hO
  have h9 : (match (generalizing := false) st with | Sum.inl (Value.float y) :: Sum.inl (Value.float x) :: t => ih mr r ls (vi (Op.cmpValue (FP.fcmp x y) op) :: t) h d | _ => none) = some (o, h1) := hrun
  split at h9
  · exact lv_fcmp hx hb hdec (nx _ _ _ h9 va H locs cells slots lsr hR hS hc hs hL (hO.pop.pop.num))
  · cases h9
theorem am_s_ddiv {K : AKx} {p : Program} {l : Launch} {e : Env} {R : Room} {s : State} {m : MethodId} {args : Array Value} {below : List Frame} {meth : Method} {c : Code} {bytes : ByteArray} {mr : MR} {o : AO} {h1 : AH} {ih : AK} {pc len tgt d : Nat} {r : List CI} {ls : AL} {st : List AV} {h : AH}  (hx : p.tables.exec = Jvm.exec) (hb : c.code = bytes)  (hdec : decode bytes pc = .ok (.ddiv, 1)) (nx : am_Nx K p l e R s m args below meth c mr o h1 (pc + 1) d ih r) (hrun : am_step ih mr ((pc, .ddiv, len, tgt) :: r) ls st h d = some (o, h1)) : am_G K p l e R s m args below meth c mr o h1 pc ls st h := by
  intro va H locs cells slots lsr hR hS hc hs hL hO
  have h9 : (match (generalizing := false) st with | Sum.inl (Value.double y) :: Sum.inl (Value.double x) :: t => if FP.ddiv x y &&& 0x7fffffffffffffff ≤ 0x7ff0000000000000 then ih mr r ls (Sum.inl (Value.double (FP.ddiv x y)) :: t) h d else none | _ => none) = some (o, h1) := hrun
  split at h9
  · split at h9
    · next hn => exact lv_ddiv hx hb hdec hn (nx _ _ _ h9 va H locs cells slots lsr hR hS hc hs hL (hO.pop.pop.num))
    · cases h9
  · cases h9
theorem am_s_fdiv {K : AKx} {p : Program} {l : Launch} {e : Env} {R : Room} {s : State} {m : MethodId} {args : Array Value} {below : List Frame} {meth : Method} {c : Code} {bytes : ByteArray} {mr : MR} {o : AO} {h1 : AH} {ih : AK} {pc len tgt d : Nat} {r : List CI} {ls : AL} {st : List AV} {h : AH}  (hx : p.tables.exec = Jvm.exec) (hb : c.code = bytes)  (hdec : decode bytes pc = .ok (.fdiv, 1)) (nx : am_Nx K p l e R s m args below meth c mr o h1 (pc + 1) d ih r) (hrun : am_step ih mr ((pc, .fdiv, len, tgt) :: r) ls st h d = some (o, h1)) : am_G K p l e R s m args below meth c mr o h1 pc ls st h := by
  intro va H locs cells slots lsr hR hS hc hs hL hO
  have h9 : (match (generalizing := false) st with | Sum.inl (Value.float y) :: Sum.inl (Value.float x) :: t => if FP.fdiv x y &&& 0x7fffffff ≤ 0x7f800000 then ih mr r ls (Sum.inl (Value.float (FP.fdiv x y)) :: t) h d else none | _ => none) = some (o, h1) := hrun
  split at h9
  · split at h9
    · next hn => exact lv_fdiv hx hb hdec hn (nx _ _ _ h9 va H locs cells slots lsr hR hS hc hs hL (hO.pop.pop.num))
    · cases h9
  · cases h9
theorem am_s_f2d {K : AKx} {p : Program} {l : Launch} {e : Env} {R : Room} {s : State} {m : MethodId} {args : Array Value} {below : List Frame} {meth : Method} {c : Code} {bytes : ByteArray} {mr : MR} {o : AO} {h1 : AH} {ih : AK} {pc len tgt d : Nat} {r : List CI} {ls : AL} {st : List AV} {h : AH}  (hx : p.tables.exec = Jvm.exec) (hb : c.code = bytes)  (hdec : decode bytes pc = .ok (.f2d, 1)) (nx : am_Nx K p l e R s m args below meth c mr o h1 (pc + 1) d ih r) (hrun : am_step ih mr ((pc, .f2d, len, tgt) :: r) ls st h d = some (o, h1)) : am_G K p l e R s m args below meth c mr o h1 pc ls st h := by
  intro va H locs cells slots lsr hR hS hc hs hL hO
  have h9 : (match (generalizing := false) st with | Sum.inl (Value.float x) :: t => if FP.f2d x &&& 0x7fffffffffffffff ≤ 0x7ff0000000000000 then ih mr r ls (Sum.inl (Value.double (FP.f2d x)) :: t) h d else none | _ => none) = some (o, h1) := hrun
  split at h9
  · split at h9
    · next hn => exact lv_f2d hx hb hdec hn (nx _ _ _ h9 va H locs cells slots lsr hR hS hc hs hL (hO.pop.num))
    · cases h9
  · cases h9
theorem am_s_if_eq {K : AKx} {p : Program} {l : Launch} {e : Env} {R : Room} {s : State} {m : MethodId} {args : Array Value} {below : List Frame} {meth : Method} {c : Code} {bytes : ByteArray} {mr : MR} {o : AO} {h1 : AH} {ih : AK} {pc len tgt d : Nat} {r : List CI} {ls : AL} {st : List AV} {h : AH} {off : Int} (hx : p.tables.exec = Jvm.exec) (hb : c.code = bytes) (ht : (pc : Int) + off = (tgt : Int)) (hdec : decode bytes pc = .ok (.ifCond .eq off, 3)) (nx : am_Nx K p l e R s m args below meth c mr o h1 (pc + 3) d ih r) (jm : am_Jm K p l e R s m args below meth c mr o h1 d ih) (hrun : am_step ih mr ((pc, .ifCond .eq off, len, tgt) :: r) ls st h d = some (o, h1)) : am_G K p l e R s m args below meth c mr o h1 pc ls st h := by
  intro va H locs cells slots lsr hR hS hc hs hL hO
  have h9 : (match (generalizing := false) st with | Sum.inl (Value.int x) :: t => if x = 0 then ih mr (am_jmp tgt mr.2.2.1) ls t h d else ih mr r ls t h d | _ => none) = some (o, h1) := hrun
  split at h9
  · refine lv_if_eq hx hb hdec ht (fun hq => ?_) (fun hq => ?_)
    · rw [if_pos hq] at h9
      exact jm _ _ _ _ h9 va H locs cells slots lsr hR hS hc hs hL hO.pop
    · rw [if_neg hq] at h9
      exact nx _ _ _ h9 va H locs cells slots lsr hR hS hc hs hL (hO.pop)
  · cases h9
theorem am_s_icmp_eq {K : AKx} {p : Program} {l : Launch} {e : Env} {R : Room} {s : State} {m : MethodId} {args : Array Value} {below : List Frame} {meth : Method} {c : Code} {bytes : ByteArray} {mr : MR} {o : AO} {h1 : AH} {ih : AK} {pc len tgt d : Nat} {r : List CI} {ls : AL} {st : List AV} {h : AH} {off : Int} (hx : p.tables.exec = Jvm.exec) (hb : c.code = bytes) (ht : (pc : Int) + off = (tgt : Int)) (hdec : decode bytes pc = .ok (.if_icmp .eq off, 3)) (nx : am_Nx K p l e R s m args below meth c mr o h1 (pc + 3) d ih r) (jm : am_Jm K p l e R s m args below meth c mr o h1 d ih) (hrun : am_step ih mr ((pc, .if_icmp .eq off, len, tgt) :: r) ls st h d = some (o, h1)) : am_G K p l e R s m args below meth c mr o h1 pc ls st h := by
  intro va H locs cells slots lsr hR hS hc hs hL hO
  have h9 : (match (generalizing := false) st with | Sum.inl (Value.int y) :: Sum.inl (Value.int x) :: t => if x = y then ih mr (am_jmp tgt mr.2.2.1) ls t h d else ih mr r ls t h d | _ => none) = some (o, h1) := hrun
  split at h9
  · refine lv_icmp_eq hx hb hdec ht (fun hq => ?_) (fun hq => ?_)
    · rw [if_pos hq] at h9
      exact jm _ _ _ _ h9 va H locs cells slots lsr hR hS hc hs hL hO.pop.pop
    · rw [if_neg hq] at h9
      exact nx _ _ _ h9 va H locs cells slots lsr hR hS hc hs hL (hO.pop.pop)
  · cases h9
theorem am_s_if_ne {K : AKx} {p : Program} {l : Launch} {e : Env} {R : Room} {s : State} {m : MethodId} {args : Array Value} {below : List Frame} {meth : Method} {c : Code} {bytes : ByteArray} {mr : MR} {o : AO} {h1 : AH} {ih : AK} {pc len tgt d : Nat} {r : List CI} {ls : AL} {st : List AV} {h : AH} {off : Int} (hx : p.tables.exec = Jvm.exec) (hb : c.code = bytes) (ht : (pc : Int) + off = (tgt : Int)) (hdec : decode bytes pc = .ok (.ifCond .ne off, 3)) (nx : am_Nx K p l e R s m args below meth c mr o h1 (pc + 3) d ih r) (jm : am_Jm K p l e R s m args below meth c mr o h1 d ih) (hrun : am_step ih mr ((pc, .ifCond .ne off, len, tgt) :: r) ls st h d = some (o, h1)) : am_G K p l e R s m args below meth c mr o h1 pc ls st h := by
  intro va H locs cells slots lsr hR hS hc hs hL hO
  have h9 : (match (generalizing := false) st with | Sum.inl (Value.int x) :: t => if x ≠ 0 then ih mr (am_jmp tgt mr.2.2.1) ls t h d else ih mr r ls t h d | _ => none) = some (o, h1) := hrun
  split at h9
  · refine lv_if_ne hx hb hdec ht (fun hq => ?_) (fun hq => ?_)
    · rw [if_pos hq] at h9
      exact jm _ _ _ _ h9 va H locs cells slots lsr hR hS hc hs hL hO.pop
    · rw [if_neg (not_not_intro hq)] at h9
      exact nx _ _ _ h9 va H locs cells slots lsr hR hS hc hs hL (hO.pop)
  · cases h9
theorem am_s_icmp_ne {K : AKx} {p : Program} {l : Launch} {e : Env} {R : Room} {s : State} {m : MethodId} {args : Array Value} {below : List Frame} {meth : Method} {c : Code} {bytes : ByteArray} {mr : MR} {o : AO} {h1 : AH} {ih : AK} {pc len tgt d : Nat} {r : List CI} {ls : AL} {st : List AV} {h : AH} {off : Int} (hx : p.tables.exec = Jvm.exec) (hb : c.code = bytes) (ht : (pc : Int) + off = (tgt : Int)) (hdec : decode bytes pc = .ok (.if_icmp .ne off, 3)) (nx : am_Nx K p l e R s m args below meth c mr o h1 (pc + 3) d ih r) (jm : am_Jm K p l e R s m args below meth c mr o h1 d ih) (hrun : am_step ih mr ((pc, .if_icmp .ne off, len, tgt) :: r) ls st h d = some (o, h1)) : am_G K p l e R s m args below meth c mr o h1 pc ls st h := by
  intro va H locs cells slots lsr hR hS hc hs hL hO
  have h9 : (match (generalizing := false) st with | Sum.inl (Value.int y) :: Sum.inl (Value.int x) :: t => if x ≠ y then ih mr (am_jmp tgt mr.2.2.1) ls t h d else ih mr r ls t h d | _ => none) = some (o, h1) := hrun
  split at h9
  · refine lv_icmp_ne hx hb hdec ht (fun hq => ?_) (fun hq => ?_)
    · rw [if_pos hq] at h9
      exact jm _ _ _ _ h9 va H locs cells slots lsr hR hS hc hs hL hO.pop.pop
    · rw [if_neg (not_not_intro hq)] at h9
      exact nx _ _ _ h9 va H locs cells slots lsr hR hS hc hs hL (hO.pop.pop)
  · cases h9
theorem am_s_if_lt {K : AKx} {p : Program} {l : Launch} {e : Env} {R : Room} {s : State} {m : MethodId} {args : Array Value} {below : List Frame} {meth : Method} {c : Code} {bytes : ByteArray} {mr : MR} {o : AO} {h1 : AH} {ih : AK} {pc len tgt d : Nat} {r : List CI} {ls : AL} {st : List AV} {h : AH} {off : Int} (hx : p.tables.exec = Jvm.exec) (hb : c.code = bytes) (ht : (pc : Int) + off = (tgt : Int)) (hdec : decode bytes pc = .ok (.ifCond .lt off, 3)) (nx : am_Nx K p l e R s m args below meth c mr o h1 (pc + 3) d ih r) (jm : am_Jm K p l e R s m args below meth c mr o h1 d ih) (hrun : am_step ih mr ((pc, .ifCond .lt off, len, tgt) :: r) ls st h d = some (o, h1)) : am_G K p l e R s m args below meth c mr o h1 pc ls st h := by
  intro va H locs cells slots lsr hR hS hc hs hL hO
  have h9 : (match (generalizing := false) st with | Sum.inl (Value.int x) :: t => if x < 0 then ih mr (am_jmp tgt mr.2.2.1) ls t h d else ih mr r ls t h d | _ => none) = some (o, h1) := hrun
  split at h9
  · refine lv_if_lt hx hb hdec ht (fun hq => ?_) (fun hq => ?_)
    · rw [if_pos hq] at h9
      exact jm _ _ _ _ h9 va H locs cells slots lsr hR hS hc hs hL hO.pop
    · rw [if_neg hq] at h9
      exact nx _ _ _ h9 va H locs cells slots lsr hR hS hc hs hL (hO.pop)
  · cases h9
theorem am_s_icmp_lt {K : AKx} {p : Program} {l : Launch} {e : Env} {R : Room} {s : State} {m : MethodId} {args : Array Value} {below : List Frame} {meth : Method} {c : Code} {bytes : ByteArray} {mr : MR} {o : AO} {h1 : AH} {ih : AK} {pc len tgt d : Nat} {r : List CI} {ls : AL} {st : List AV} {h : AH} {off : Int} (hx : p.tables.exec = Jvm.exec) (hb : c.code = bytes) (ht : (pc : Int) + off = (tgt : Int)) (hdec : decode bytes pc = .ok (.if_icmp .lt off, 3)) (nx : am_Nx K p l e R s m args below meth c mr o h1 (pc + 3) d ih r) (jm : am_Jm K p l e R s m args below meth c mr o h1 d ih) (hrun : am_step ih mr ((pc, .if_icmp .lt off, len, tgt) :: r) ls st h d = some (o, h1)) : am_G K p l e R s m args below meth c mr o h1 pc ls st h := by
  intro va H locs cells slots lsr hR hS hc hs hL hO
  have h9 : (match (generalizing := false) st with | Sum.inl (Value.int y) :: Sum.inl (Value.int x) :: t => if x < y then ih mr (am_jmp tgt mr.2.2.1) ls t h d else ih mr r ls t h d | _ => none) = some (o, h1) := hrun
  split at h9
  · refine lv_icmp_lt hx hb hdec ht (fun hq => ?_) (fun hq => ?_)
    · rw [if_pos hq] at h9
      exact jm _ _ _ _ h9 va H locs cells slots lsr hR hS hc hs hL hO.pop.pop
    · rw [if_neg hq] at h9
      exact nx _ _ _ h9 va H locs cells slots lsr hR hS hc hs hL (hO.pop.pop)
  · cases h9
theorem am_s_if_ge {K : AKx} {p : Program} {l : Launch} {e : Env} {R : Room} {s : State} {m : MethodId} {args : Array Value} {below : List Frame} {meth : Method} {c : Code} {bytes : ByteArray} {mr : MR} {o : AO} {h1 : AH} {ih : AK} {pc len tgt d : Nat} {r : List CI} {ls : AL} {st : List AV} {h : AH} {off : Int} (hx : p.tables.exec = Jvm.exec) (hb : c.code = bytes) (ht : (pc : Int) + off = (tgt : Int)) (hdec : decode bytes pc = .ok (.ifCond .ge off, 3)) (nx : am_Nx K p l e R s m args below meth c mr o h1 (pc + 3) d ih r) (jm : am_Jm K p l e R s m args below meth c mr o h1 d ih) (hrun : am_step ih mr ((pc, .ifCond .ge off, len, tgt) :: r) ls st h d = some (o, h1)) : am_G K p l e R s m args below meth c mr o h1 pc ls st h := by
  intro va H locs cells slots lsr hR hS hc hs hL hO
  have h9 : (match (generalizing := false) st with | Sum.inl (Value.int x) :: t => if 0 ≤ x then ih mr (am_jmp tgt mr.2.2.1) ls t h d else ih mr r ls t h d | _ => none) = some (o, h1) := hrun
  split at h9
  · refine lv_if_ge hx hb hdec ht (fun hq => ?_) (fun hq => ?_)
    · rw [if_pos hq] at h9
      exact jm _ _ _ _ h9 va H locs cells slots lsr hR hS hc hs hL hO.pop
    · rw [if_neg hq] at h9
      exact nx _ _ _ h9 va H locs cells slots lsr hR hS hc hs hL (hO.pop)
  · cases h9
theorem am_s_icmp_ge {K : AKx} {p : Program} {l : Launch} {e : Env} {R : Room} {s : State} {m : MethodId} {args : Array Value} {below : List Frame} {meth : Method} {c : Code} {bytes : ByteArray} {mr : MR} {o : AO} {h1 : AH} {ih : AK} {pc len tgt d : Nat} {r : List CI} {ls : AL} {st : List AV} {h : AH} {off : Int} (hx : p.tables.exec = Jvm.exec) (hb : c.code = bytes) (ht : (pc : Int) + off = (tgt : Int)) (hdec : decode bytes pc = .ok (.if_icmp .ge off, 3)) (nx : am_Nx K p l e R s m args below meth c mr o h1 (pc + 3) d ih r) (jm : am_Jm K p l e R s m args below meth c mr o h1 d ih) (hrun : am_step ih mr ((pc, .if_icmp .ge off, len, tgt) :: r) ls st h d = some (o, h1)) : am_G K p l e R s m args below meth c mr o h1 pc ls st h := by
  intro va H locs cells slots lsr hR hS hc hs hL hO
  have h9 : (match (generalizing := false) st with | Sum.inl (Value.int y) :: Sum.inl (Value.int x) :: t => if y ≤ x then ih mr (am_jmp tgt mr.2.2.1) ls t h d else ih mr r ls t h d | _ => none) = some (o, h1) := hrun
  split at h9
  · refine lv_icmp_ge hx hb hdec ht (fun hq => ?_) (fun hq => ?_)
    · rw [if_pos hq] at h9
      exact jm _ _ _ _ h9 va H locs cells slots lsr hR hS hc hs hL hO.pop.pop
    · rw [if_neg hq] at h9
      exact nx _ _ _ h9 va H locs cells slots lsr hR hS hc hs hL (hO.pop.pop)
  · cases h9
theorem am_s_if_gt {K : AKx} {p : Program} {l : Launch} {e : Env} {R : Room} {s : State} {m : MethodId} {args : Array Value} {below : List Frame} {meth : Method} {c : Code} {bytes : ByteArray} {mr : MR} {o : AO} {h1 : AH} {ih : AK} {pc len tgt d : Nat} {r : List CI} {ls : AL} {st : List AV} {h : AH} {off : Int} (hx : p.tables.exec = Jvm.exec) (hb : c.code = bytes) (ht : (pc : Int) + off = (tgt : Int)) (hdec : decode bytes pc = .ok (.ifCond .gt off, 3)) (nx : am_Nx K p l e R s m args below meth c mr o h1 (pc + 3) d ih r) (jm : am_Jm K p l e R s m args below meth c mr o h1 d ih) (hrun : am_step ih mr ((pc, .ifCond .gt off, len, tgt) :: r) ls st h d = some (o, h1)) : am_G K p l e R s m args below meth c mr o h1 pc ls st h := by
  intro va H locs cells slots lsr hR hS hc hs hL hO
  have h9 : (match (generalizing := false) st with | Sum.inl (Value.int x) :: t => if 0 < x then ih mr (am_jmp tgt mr.2.2.1) ls t h d else ih mr r ls t h d | _ => none) = some (o, h1) := hrun
  split at h9
  · refine lv_if_gt hx hb hdec ht (fun hq => ?_) (fun hq => ?_)
    · rw [if_pos hq] at h9
      exact jm _ _ _ _ h9 va H locs cells slots lsr hR hS hc hs hL hO.pop
    · rw [if_neg hq] at h9
      exact nx _ _ _ h9 va H locs cells slots lsr hR hS hc hs hL (hO.pop)
  · cases h9
theorem am_s_icmp_gt {K : AKx} {p : Program} {l : Launch} {e : Env} {R : Room} {s : State} {m : MethodId} {args : Array Value} {below : List Frame} {meth : Method} {c : Code} {bytes : ByteArray} {mr : MR} {o : AO} {h1 : AH} {ih : AK} {pc len tgt d : Nat} {r : List CI} {ls : AL} {st : List AV} {h : AH} {off : Int} (hx : p.tables.exec = Jvm.exec) (hb : c.code = bytes) (ht : (pc : Int) + off = (tgt : Int)) (hdec : decode bytes pc = .ok (.if_icmp .gt off, 3)) (nx : am_Nx K p l e R s m args below meth c mr o h1 (pc + 3) d ih r) (jm : am_Jm K p l e R s m args below meth c mr o h1 d ih) (hrun : am_step ih mr ((pc, .if_icmp .gt off, len, tgt) :: r) ls st h d = some (o, h1)) : am_G K p l e R s m args below meth c mr o h1 pc ls st h := by
  intro va H locs cells slots lsr hR hS hc hs hL hO
  have h9 : (match (generalizing := false) st with | Sum.inl (Value.int y) :: Sum.inl (Value.int x) :: t => if y < x then ih mr (am_jmp tgt mr.2.2.1) ls t h d else ih mr r ls t h d | _ => none) = some (o, h1) := hrun
  split at h9
  · refine lv_icmp_gt hx hb hdec ht (fun hq => ?_) (fun hq => ?_)
    · rw [if_pos hq] at h9
      exact jm _ _ _ _ h9 va H locs cells slots lsr hR hS hc hs hL hO.pop.pop
    · rw [if_neg hq] at h9
      exact nx _ _ _ h9 va H locs cells slots lsr hR hS hc hs hL (hO.pop.pop)
  · cases h9
theorem am_s_if_le {K : AKx} {p : Program} {l : Launch} {e : Env} {R : Room} {s : State} {m : MethodId} {args : Array Value} {below : List Frame} {meth : Method} {c : Code} {bytes : ByteArray} {mr : MR} {o : AO} {h1 : AH} {ih : AK} {pc len tgt d : Nat} {r : List CI} {ls : AL} {st : List AV} {h : AH} {off : Int} (hx : p.tables.exec = Jvm.exec) (hb : c.code = bytes) (ht : (pc : Int) + off = (tgt : Int)) (hdec : decode bytes pc = .ok (.ifCond .le off, 3)) (nx : am_Nx K p l e R s m args below meth c mr o h1 (pc + 3) d ih r) (jm : am_Jm K p l e R s m args below meth c mr o h1 d ih) (hrun : am_step ih mr ((pc, .ifCond .le off, len, tgt) :: r) ls st h d = some (o, h1)) : am_G K p l e R s m args below meth c mr o h1 pc ls st h := by
  intro va H locs cells slots lsr hR hS hc hs hL hO
  have h9 : (match (generalizing := false) st with | Sum.inl (Value.int x) :: t => if x ≤ 0 then ih mr (am_jmp tgt mr.2.2.1) ls t h d else ih mr r ls t h d | _ => none) = some (o, h1) := hrun
  split at h9
  · refine lv_if_le hx hb hdec ht (fun hq => ?_) (fun hq => ?_)
    · rw [if_pos hq] at h9
      exact jm _ _ _ _ h9 va H locs cells slots lsr hR hS hc hs hL hO.pop
    · rw [if_neg hq] at h9
      exact nx _ _ _ h9 va H locs cells slots lsr hR hS hc hs hL (hO.pop)
  · cases h9
theorem am_s_icmp_le {K : AKx} {p : Program} {l : Launch} {e : Env} {R : Room} {s : State} {m : MethodId} {args : Array Value} {below : List Frame} {meth : Method} {c : Code} {bytes : ByteArray} {mr : MR} {o : AO} {h1 : AH} {ih : AK} {pc len tgt d : Nat} {r : List CI} {ls : AL} {st : List AV} {h : AH} {off : Int} (hx : p.tables.exec = Jvm.exec) (hb : c.code = bytes) (ht : (pc : Int) + off = (tgt : Int)) (hdec : decode bytes pc = .ok (.if_icmp .le off, 3)) (nx : am_Nx K p l e R s m args below meth c mr o h1 (pc + 3) d ih r) (jm : am_Jm K p l e R s m args below meth c mr o h1 d ih) (hrun : am_step ih mr ((pc, .if_icmp .le off, len, tgt) :: r) ls st h d = some (o, h1)) : am_G K p l e R s m args below meth c mr o h1 pc ls st h := by
  intro va H locs cells slots lsr hR hS hc hs hL hO
  have h9 : (match (generalizing := false) st with | Sum.inl (Value.int y) :: Sum.inl (Value.int x) :: t => if x ≤ y then ih mr (am_jmp tgt mr.2.2.1) ls t h d else ih mr r ls t h d | _ => none) = some (o, h1) := hrun
  split at h9
  · refine lv_icmp_le hx hb hdec ht (fun hq => ?_) (fun hq => ?_)
    · rw [if_pos hq] at h9
      exact jm _ _ _ _ h9 va H locs cells slots lsr hR hS hc hs hL hO.pop.pop
    · rw [if_neg hq] at h9
      exact nx _ _ _ h9 va H locs cells slots lsr hR hS hc hs hL (hO.pop.pop)
  · cases h9
theorem am_s_goto {K : AKx} {p : Program} {l : Launch} {e : Env} {R : Room} {s : State} {m : MethodId} {args : Array Value} {below : List Frame} {meth : Method} {c : Code} {bytes : ByteArray} {mr : MR} {o : AO} {h1 : AH} {ih : AK} {pc len tgt d : Nat} {r : List CI} {ls : AL} {st : List AV} {h : AH} {off : Int} (hx : p.tables.exec = Jvm.exec) (hb : c.code = bytes) (ht : (pc : Int) + off = (tgt : Int)) (hdec : decode bytes pc = .ok (.goto off, 3)) (nx : am_Nx K p l e R s m args below meth c mr o h1 (pc + 3) d ih r) (jm : am_Jm K p l e R s m args below meth c mr o h1 d ih) (hrun : am_step ih mr ((pc, .goto off, len, tgt) :: r) ls st h d = some (o, h1)) : am_G K p l e R s m args below meth c mr o h1 pc ls st h := by
  intro va H locs cells slots lsr hR hS hc hs hL hO
  exact lv_goto hx hb hdec ht (jm _ _ _ _ hrun va H locs cells slots lsr hR hS hc hs hL hO)
theorem am_s_ifnull {K : AKx} {p : Program} {l : Launch} {e : Env} {R : Room} {s : State} {m : MethodId} {args : Array Value} {below : List Frame} {meth : Method} {c : Code} {bytes : ByteArray} {mr : MR} {o : AO} {h1 : AH} {ih : AK} {pc len tgt d : Nat} {r : List CI} {ls : AL} {st : List AV} {h : AH} {off : Int} (hx : p.tables.exec = Jvm.exec) (hb : c.code = bytes) (ht : (pc : Int) + off = (tgt : Int)) (hdec : decode bytes pc = .ok (.ifnull off, 3)) (nx : am_Nx K p l e R s m args below meth c mr o h1 (pc + 3) d ih r) (jm : am_Jm K p l e R s m args below meth c mr o h1 d ih) (hrun : am_step ih mr ((pc, .ifnull off, len, tgt) :: r) ls st h d = some (o, h1)) : am_G K p l e R s m args below meth c mr o h1 pc ls st h := by
  intro va H locs cells slots lsr hR hS hc hs hL hO
  have h9 : (match (generalizing := false) st with | Sum.inr _ :: t => ih mr r ls t h d | Sum.inl Value.null :: t => ih mr (am_jmp tgt mr.2.2.1) ls t h d | _ => none) = some (o, h1) := hrun
  split at h9
  · exact lv_ifnull hx hb hdec (nx _ _ _ h9 va H locs cells slots lsr hR hS hc hs hL (hO.pop))
  · exact lv_ifnullN hx hb hdec ht (jm _ _ _ _ h9 va H locs cells slots lsr hR hS hc hs hL hO.pop)
  · cases h9
theorem am_s_ifnonnull {K : AKx} {p : Program} {l : Launch} {e : Env} {R : Room} {s : State} {m : MethodId} {args : Array Value} {below : List Frame} {meth : Method} {c : Code} {bytes : ByteArray} {mr : MR} {o : AO} {h1 : AH} {ih : AK} {pc len tgt d : Nat} {r : List CI} {ls : AL} {st : List AV} {h : AH} {off : Int} (hx : p.tables.exec = Jvm.exec) (hb : c.code = bytes) (ht : (pc : Int) + off = (tgt : Int)) (hdec : decode bytes pc = .ok (.ifnonnull off, 3)) (nx : am_Nx K p l e R s m args below meth c mr o h1 (pc + 3) d ih r) (jm : am_Jm K p l e R s m args below meth c mr o h1 d ih) (hrun : am_step ih mr ((pc, .ifnonnull off, len, tgt) :: r) ls st h d = some (o, h1)) : am_G K p l e R s m args below meth c mr o h1 pc ls st h := by
  intro va H locs cells slots lsr hR hS hc hs hL hO
  have h9 : (match (generalizing := false) st with | Sum.inr _ :: t => ih mr (am_jmp tgt mr.2.2.1) ls t h d | Sum.inl Value.null :: t => ih mr r ls t h d | _ => none) = some (o, h1) := hrun
  split at h9
  · exact lv_ifnonnull hx hb hdec ht (jm _ _ _ _ h9 va H locs cells slots lsr hR hS hc hs hL hO.pop)
  · exact lv_ifnonnullN hx hb hdec (nx _ _ _ h9 va H locs cells slots lsr hR hS hc hs hL (hO.pop))
  · cases h9
