/-! cells and elements are made, never unmade -/
def am_ge (a b : Nat) (r : AR) : Prop := ∀ (o : AO) (h1 : AH), r = some (o, h1) → a ≤ h1.nc ∧ b ≤ h1.ns
theorem am_ge.none {a b : Nat} : am_ge a b none := fun _ _ h => by cases h
theorem am_ge.some {a b : Nat} {o : AO} {h : AH} (h1 : a ≤ h.nc) (h2 : b ≤ h.ns) : am_ge a b (some (o, h)) := fun _ _ q => by cases q; exact ⟨h1, h2⟩
def am_gk (ih : AK) : Prop := ∀ (a b : Nat) (mr : MR) (r : List CI) (ls : AL) (st : List AV) (h : AH) (d : Nat), a ≤ h.nc → b ≤ h.ns → am_ge a b (ih mr r ls st h d)
theorem am_ge_ite {a b : Nat} {c : Prop} [Decidable c] {x y : AR} (h1 : am_ge a b x) (h2 : am_ge a b y) : am_ge a b (if c then x else y) := by
  by_cases h : c
  · rw [if_pos h]; exact h1
  · rw [if_neg h]; exact h2
theorem am_ge_bif {a b : Nat} {c : Bool} {x y : AR} (h1 : am_ge a b x) (h2 : am_ge a b y) : am_ge a b (bif c then x else y) := by
  cases c
  · exact h2
  · exact h1
theorem am_ge_mk {a b tg : Nat} {len : Option Nat} {h : AH} {k : AA → AH → AR} (h1 : a ≤ h.nc) (h2 : b ≤ h.ns) (hk : ∀ (x : AA) (h3 : AH), a ≤ h3.nc → b ≤ h3.ns → am_ge a b (k x h3)) : am_ge a b (am_mk k h tg len) := by
  unfold am_mk
  split
  · split
    · refine am_ge_ite (hk _ _ ?_ ?_) am_ge.none
      · exact Nat.le_succ_of_le h1
      · exact Nat.le_add_right_of_le h2
    · refine am_ge_bif (hk _ _ ?_ ?_) am_ge.none
      · exact Nat.le_succ_of_le h1
      · exact Nat.le_add_right_of_le h2
  · next n _ =>
    refine am_ge_ite (hk _ _ ?_ ?_) am_ge.none
    · exact Nat.le_succ_of_le h1
    · exact Nat.le_add_right_of_le h2
theorem am_ge_pf {a b j kd : Nat} {x : AA} {v : AV} {h : AH} {k : AH → AR} (h1 : a ≤ h.nc) (h2 : b ≤ h.ns) (hk : ∀ h3 : AH, a ≤ h3.nc → b ≤ h3.ns → am_ge a b (k h3)) : am_ge a b (am_pf k h x j kd v) := by
  unfold am_pf
  split
  · cases Nat.beq kd 0 with
    | true => exact hk _ h1 h2
    | false =>
      rw [cond_false]
      cases Nat.beq kd 2 with
      | true =>
        rw [cond_true]
        split
        · exact hk _ h1 h2
        · exact am_ge.none
      | false =>
        rw [cond_false]
        cases Nat.beq kd 3 with
        | true =>
          rw [cond_true]
          split
          · exact hk _ h1 h2
          · exact am_ge.none
        | false => exact am_ge.none
  · next b9 =>
    cases Nat.beq kd 1 with
    | true => exact hk _ h1 h2
    | false => exact am_ge.none
  · exact am_ge.none
theorem am_ge_pr {a b : Nat} {v : AV} {k : AV → AR} (hk : ∀ v, am_ge a b (k v)) : am_ge a b (am_pr k v) := by
  unfold am_pr
  split
  · exact hk _
  · exact hk _
  · exact am_ge.none
theorem am_ge_tsw {a b pc : Nat} {dflt lo hi : Int} {offs : Array Int} {x : Int32} {k : Nat → AR} (hk : ∀ v, am_ge a b (k v)) : am_ge a b (am_tsw k pc dflt lo hi offs x) := by
  unfold am_tsw
  split
  · split
    · exact hk _
    · exact am_ge.none
  · split
    · split
      · exact hk _
      · exact am_ge.none
    · exact am_ge.none
theorem am_ge_lsw {a b pc : Nat} {dflt : Int} {ps : Array (Int × Int)} {x : Int32} {k : Nat → AR} (hk : ∀ v, am_ge a b (k v)) : am_ge a b (am_lsw k pc dflt ps x) := by
  unfold am_lsw
  split
  · exact hk _
  · exact am_ge.none
theorem am_ge_nr {a b k : Nat} {x : Int32} {r : AR} (h : am_ge a b r) : am_ge a b (am_nr k x r) := by
  unfold am_nr
  cases Nat.beq k 0 with
  | true => exact h
  | false =>
    rw [cond_false]
    cases Nat.beq k 1 with
    | true => rw [cond_true]; split; exact h; exact am_ge.none
    | false =>
      rw [cond_false]
      cases Nat.beq k 2 with
      | true => rw [cond_true]; split; exact h; exact am_ge.none
      | false =>
        rw [cond_false]
        cases Nat.beq k 3 with
        | true => rw [cond_true]; split; exact h; exact am_ge.none
        | false => exact am_ge.none
theorem am_ge_aq {a b : Nat} {x y : AA} {k1 k2 : AR} (h1 : am_ge a b k1) (h2 : am_ge a b k2) : am_ge a b (am_aq k1 k2 x y) := by
  unfold am_aq
  split
  · exact am_ge_ite h1 h2
  · exact am_ge_ite h1 h2
  · exact am_ge_ite h1 am_ge.none
  · exact am_ge_ite h2 am_ge.none
  · exact am_ge_ite h2 am_ge.none
  · exact am_ge.none
theorem am_acp_tl {h h2 : AH} {a b : AA} {sp dp n : Nat} (q : am_acp h a b sp dp n = some h2) : h2.2.2 = h.2.2 := by
  unfold am_acp at q
  cases c1 : (Nat.beq (am_ty h a).1 100 && Nat.beq (am_ty h b).1 100) with
  | true =>
    rw [c1, cond_true] at q
    split at q
    · cases q; rfl
    · cases q
  | false =>
    rw [c1, cond_false] at q
    cases c2 : (Nat.beq (am_ty h a).1 101 && Nat.beq (am_ty h b).1 101) with
    | true =>
      rw [c2, cond_true] at q
      split at q
      · cases q; rfl
      · cases q
    | false =>
      rw [c2, cond_false] at q
      cases c3 : (Nat.beq (am_ty h a).1 104 && Nat.beq (am_ty h b).1 104) with
      | true =>
        rw [c3, cond_true] at q
        split at q
        · cases q; rfl
        · cases q
      | false => rw [c3, cond_false] at q; cases q
theorem am_ge_call {ih : AK} (hih : am_gk ih) {a b pc d : Nat} {mr : MR} {r : List CI} {ls : AL} {st : List AV} {h : AH} {q : Nat × Nat × Nat × MR} (h1 : a ≤ h.nc) (h2 : b ≤ h.ns) : am_ge a b (am_call ih mr pc r ls st h d q) := by
  unfold am_call
  dsimp only
  generalize (bif am_stk q.1 || Nat.beq q.1 10 || Nat.beq q.1 11 then q.2.1 else q.2.1 + 1) = n
  generalize (List.take n st).reverse = as
  generalize List.drop n st = t
  generalize (!(Nat.beq as.length n && am_cl q.1 ls t && Nat.ble (am_sum t) 8)) = b0
  cases b0 with
  | true => exact am_ge.none
  | false =>
    rw [cond_false]
    cases Nat.beq q.1 3 with
    | true =>
      rw [cond_true]
      split
      · exact am_ge_bif (hih _ _ _ _ _ _ _ _ h1 h2) am_ge.none
      · exact am_ge.none
    | false =>
      rw [cond_false]
      cases Nat.beq q.1 7 with
      | true =>
        rw [cond_true]
        split
        · split
          · refine hih _ _ _ _ _ _ _ _ ?_ ?_
            · exact Nat.le_succ_of_le h1
            · exact Nat.le_add_right_of_le h2
          · exact am_ge.none
        · exact am_ge.none
      | false =>
       rw [cond_false]
       cases Nat.beq q.1 8 with
       | true =>
        rw [cond_true]
        split
        · split
          · exact hih _ _ _ _ _ _ _ _ h1 h2
          · exact am_ge.none
        · exact am_ge.none
       | false =>
        rw [cond_false]
        cases Nat.beq q.1 10 with
        | true =>
          rw [cond_true]
          split
          · split
            · split
              · next h3 hq3 =>
                have e := am_acp_tl hq3
                refine hih _ _ _ _ _ _ _ _ ?_ ?_
                · show a ≤ h3.2.2.2.2.2.1
                  rw [e]; exact h1
                · show b ≤ h3.2.2.2.2.2.2.1
                  rw [e]; exact h2
              · exact am_ge.none
            · exact am_ge.none
          · exact am_ge.none
        | false =>
          rw [cond_false]
          cases Nat.beq q.1 11 with
          | true =>
            rw [cond_true]
            split
            · split
              · exact hih _ _ _ _ _ _ _ _ h1 h2
              · exact am_ge.none
            · exact am_ge.none
          | false =>
            rw [cond_false]
            cases Nat.ble 15 q.1 with
            | true =>
              rw [cond_true]
              split
              · exact am_ge_bif (hih _ _ _ _ _ _ _ _ h1 h2) am_ge.none
              · exact am_ge.none
            | false =>
              rw [cond_false]
              refine am_ge_bif ?_ am_ge.none
              · cases d with
                | zero => exact am_ge.none
                | succ d0 =>
                  have hc := hih a b q.2.2.2 q.2.2.2.2.2.1 (am_pad q.2.2.2.2.1 (am_args as)) [] h d0 h1 h2
                  dsimp only
                  cases hq : ih q.2.2.2 q.2.2.2.2.2.1 (am_pad q.2.2.2.2.1 (am_args as)) [] h d0 with
                  | none => exact am_ge.none
                  | some x =>
                    obtain ⟨o3, h3⟩ := x
                    obtain ⟨g1, g2⟩ := hc _ _ hq
                    rcases o3 with v | E
                    · cases v with
                      | none => exact hih _ _ _ _ _ _ _ _ g1 g2
                      | some v => exact hih _ _ _ _ _ _ _ _ g1 g2
                    · show am_ge a b (bif !am_xck q.1 then none else am_thr pc E mr (fun tgt k => ih mr (am_jmp tgt mr.2.2.1) ((am_clr ls k).set k none) [] h3 (d0 + 1)) h3)
                      refine am_ge_bif am_ge.none ?_
                      unfold am_thr
                      split
                      · exact hih _ _ _ _ _ _ _ _ g1 g2
                      · exact am_ge.some g1 g2
