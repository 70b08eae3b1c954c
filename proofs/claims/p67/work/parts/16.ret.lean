section RET
variable {K : AKx} {p : Program} {l : Launch} {e : Env} {R : Room} {s : State} {m : MethodId} {args : Array Value} {below : List Frame} {meth : Method} {c : Code} {bytes : ByteArray} {mr : MR} {o : AO} {h1 : AH} {ih : AK} {pc len tgt d : Nat} {r : List CI} {ls : AL} {st : List AV} {h : AH}
/-- the return type of a number's return -/
def am_rty : Nat → FieldType
  | 0 => .int
  | 1 => .boolean
  | 2 => .char
  | _ => .byte
theorem am_mq {Qc : Array Value → State → Outcome → State → Prop} {XC : String → State → State → Prop} {H : Heap} {locs : List Loc} {cells slots k n : Nat} {free : Addr → Prop} {g : JFrame} (h1 : cells ≤ k) (h2 : slots ≤ n) (kk : W p l e R s m args below meth c H locs k n (MQ below Qc args s k n free) g) : W p l e R s m args below meth c H locs cells slots (vx_MQ below Qc XC args s k n free) g := fun T hT X => vx_ret kk T hT (stand_widen X h1 h2)
theorem am_s_return_ (hC : am_Cx K p s m args c bytes mr) (hlocks : meth.locks = false) (hrt : meth.sig.returnType = none) (hdec : decode bytes pc = .ok (.return_, 1)) (hrun : am_step ih mr ((pc, .return_, len, tgt) :: r) ls st h d = some (o, h1)) : am_G K p l e R s m args below meth c mr o h1 pc ls st h := by
  intro va H locs cells slots lsr hR hS hc hs hL hO
  obtain ⟨hx, hb, hml, hown, hts, hKn⟩ := hC
  have h9 : (match (generalizing := false) st with | [] => some (Sum.inl none, h) | _ => none) = some (o, h1) := hrun
  split at h9
  · cases h9
    refine am_mq (by omega) (by omega) (W.vret hx hb hrt (fun t ht hW => ⟨none, va, rfl, rfl, by rw [ht]; exact hR, hS.F ht, hO.1, fun w hw => by cases hw⟩) hS.2.2 hdec)
  · cases h9
theorem am_s_ireturn (hC : am_Cx K p s m args c bytes mr) (hlocks : meth.locks = false) (hrt : meth.sig.returnType = some (am_rty tgt)) (hdec : decode bytes pc = .ok (.ireturn, 1)) (hrun : am_step ih mr ((pc, .ireturn, len, tgt) :: r) ls st h d = some (o, h1)) : am_G K p l e R s m args below meth c mr o h1 pc ls st h := by
  intro va H locs cells slots lsr hR hS hc hs hL hO
  obtain ⟨hx, hb, hml, hown, hts, hKn⟩ := hC
  have h9 : (match (generalizing := false) st with | [Sum.inl (Value.int x)] => am_nr tgt x (some (Sum.inl (some (vi x)), h)) | _ => none) = some (o, h1) := hrun
  split at h9
  · next x =>
    have key : narrow (am_rty tgt) (.int x) = .int x ∧ o = Sum.inl (some (vi x)) ∧ h1 = h := by
      unfold am_nr at h9
      cases b0 : Nat.beq tgt 0 with
      | true =>
        rw [b0] at h9
        rw [Nat.eq_of_beq_eq_true b0]
        cases h9
        exact ⟨rfl, rfl, rfl⟩
      | false =>
        rw [b0, cond_false] at h9
        cases b1 : Nat.beq tgt 1 with
        | true =>
          rw [b1, cond_true] at h9
          rw [Nat.eq_of_beq_eq_true b1]
          split at h9
          · next hx9 =>
            cases h9
            refine ⟨?_, rfl, rfl⟩
            rcases hx9 with rfl | rfl <;> rfl
          · cases h9
        | false =>
          rw [b1, cond_false] at h9
          cases b2 : Nat.beq tgt 2 with
          | true =>
            rw [b2, cond_true] at h9
            rw [Nat.eq_of_beq_eq_true b2]
            split at h9
            · next hx9 =>
              cases h9
              exact ⟨congrArg Value.int hx9, rfl, rfl⟩
            · cases h9
          | false =>
            rw [b2, cond_false] at h9
            cases b3 : Nat.beq tgt 3 with
            | true =>
              rw [b3, cond_true] at h9
              rw [Nat.eq_of_beq_eq_true b3]
              split at h9
              · next hx9 =>
                cases h9
                exact ⟨congrArg Value.int hx9, rfl, rfl⟩
              · cases h9
            | false => rw [b3, cond_false] at h9; cases h9
    obtain ⟨hn, rfl, rfl⟩ := key
    exact am_mq (by omega) (by omega) (W.zret hx hb hrt hn (fun t ht hW => ⟨some (vi x), va, rfl, rfl, by rw [ht]; exact hR, hS.F ht, hO.1, fun w hw => by cases hw; trivial⟩) hS.2.2 hdec)
  · cases h9
theorem am_s_freturn (hC : am_Cx K p s m args c bytes mr) (hlocks : meth.locks = false) (hrt : meth.sig.returnType = some .float) (hdec : decode bytes pc = .ok (.freturn, 1)) (hrun : am_step ih mr ((pc, .freturn, len, tgt) :: r) ls st h d = some (o, h1)) : am_G K p l e R s m args below meth c mr o h1 pc ls st h := by
  intro va H locs cells slots lsr hR hS hc hs hL hO
  obtain ⟨hx, hb, hml, hown, hts, hKn⟩ := hC
  have h9 : (match (generalizing := false) st with | [Sum.inl (Value.float x)] => some (Sum.inl (some (Sum.inl (Value.float x))), h) | _ => none) = some (o, h1) := hrun
  split at h9
  · next x =>
    cases h9
    exact am_mq (by omega) (by omega) (W.fret hx hb hrt (fun t ht hW => ⟨some (Sum.inl (.float x)), va, rfl, rfl, by rw [ht]; exact hR, hS.F ht, hO.1, fun w hw => by cases hw; trivial⟩) hS.2.2 hdec)
  · cases h9
theorem am_s_dreturn (hC : am_Cx K p s m args c bytes mr) (hlocks : meth.locks = false) (hrt : meth.sig.returnType = some .double) (hdec : decode bytes pc = .ok (.dreturn, 1)) (hrun : am_step ih mr ((pc, .dreturn, len, tgt) :: r) ls st h d = some (o, h1)) : am_G K p l e R s m args below meth c mr o h1 pc ls st h := by
  intro va H locs cells slots lsr hR hS hc hs hL hO
  obtain ⟨hx, hb, hml, hown, hts, hKn⟩ := hC
  have h9 : (match (generalizing := false) st with | [Sum.inl (Value.double x)] => some (Sum.inl (some (Sum.inl (Value.double x))), h) | _ => none) = some (o, h1) := hrun
  split at h9
  · next x =>
    cases h9
    exact am_mq (by omega) (by omega) (W.dret hx hb hrt (fun t ht hW => ⟨some (Sum.inl (.double x)), va, rfl, rfl, by rw [ht]; exact hR, hS.F ht, hO.1, fun w hw => by cases hw; trivial⟩) hS.2.2 hdec)
  · cases h9
theorem am_s_lreturn (hC : am_Cx K p s m args c bytes mr) (hlocks : meth.locks = false) (hrt : meth.sig.returnType = some .long) (hdec : decode bytes pc = .ok (.lreturn, 1)) (hrun : am_step ih mr ((pc, .lreturn, len, tgt) :: r) ls st h d = some (o, h1)) : am_G K p l e R s m args below meth c mr o h1 pc ls st h := by
  intro va H locs cells slots lsr hR hS hc hs hL hO
  obtain ⟨hx, hb, hml, hown, hts, hKn⟩ := hC
  have h9 : (match (generalizing := false) st with | [Sum.inl (Value.long x)] => some (Sum.inl (some (Sum.inl (Value.long x))), h) | _ => none) = some (o, h1) := hrun
  split at h9
  · next x =>
    cases h9
    exact am_mq (by omega) (by omega) (W.lret hx hb hrt (fun t ht hW => ⟨some (Sum.inl (.long x)), va, rfl, rfl, by rw [ht]; exact hR, hS.F ht, hO.1, fun w hw => by cases hw; trivial⟩) hS.2.2 hdec)
  · cases h9
theorem am_s_areturn {rt9 : FieldType} (hC : am_Cx K p s m args c bytes mr) (hlocks : meth.locks = false) (hrt : meth.sig.returnType = some rt9) (hro : (∃ n, rt9 = .object n) ∨ ∃ t, rt9 = .array t) (hdec : decode bytes pc = .ok (.areturn, 1)) (hrun : am_step ih mr ((pc, .areturn, len, tgt) :: r) ls st h d = some (o, h1)) : am_G K p l e R s m args below meth c mr o h1 pc ls st h := by
  intro va H locs cells slots lsr hR hS hc hs hL hO
  obtain ⟨hx, hb, hml, hown, hts, hKn⟩ := hC
  have h9 : (match (generalizing := false) st with | [Sum.inr a] => some (Sum.inl (some (Sum.inr a)), h) | [Sum.inl Value.null] => some (Sum.inl (some (Sum.inl Value.null)), h) | _ => none) = some (o, h1) := hrun
  split at h9
  · next a =>
    cases h9
    exact am_mq (by omega) (by omega) (W.aret hx hb hrt hro (Or.inr ⟨_, rfl⟩) (fun t ht hW => ⟨some (Sum.inr a), va, rfl, rfl, by rw [ht]; exact hR, hS.F ht, hO.1, fun w hw => by cases hw; exact hO.top⟩) hS.2.2 hdec)
  · cases h9
    exact am_mq (by omega) (by omega) (W.aret hx hb hrt hro (Or.inl rfl) (fun t ht hW => ⟨some (Sum.inl .null), va, rfl, rfl, by rw [ht]; exact hR, hS.F ht, hO.1, fun w hw => by cases hw; trivial⟩) hS.2.2 hdec)
  · cases h9
end RET
