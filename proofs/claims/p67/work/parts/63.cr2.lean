theorem bs {α β : Type} (a : α) (f : α → Option β) : (some a).bind f = f a := rfl
/-- a piece of the class's code changes World i as told, and nothing else -/
def cs_ (S : Option HI) (i : Fin 12) (h : HI) (w : Wd) : Prop := ∃ h1, S = some h1 ∧ vw_ i h1 = w ∧ fr_ i h h1
def cv_ (S : Option (Int32 × HI)) (i : Fin 12) (h : HI) (v : Int32) (w : Wd) : Prop := ∃ h1, S = some (v, h1) ∧ vw_ i h1 = w ∧ fr_ i h h1
section CSL
variable {i : Fin 12} {h : HI} {w w1 : Wd}
theorem cs_.bind {S : Option HI} {T : HI → Option HI} (a : cs_ S i h w) (b : ∀ h1, vw_ i h1 = w → fr_ i h h1 → cs_ (T h1) i h w1) : cs_ (S.bind T) i h w1 := by
  obtain ⟨h1, e, hv, hf⟩ := a
  rw [e]
  exact b h1 hv hf
theorem cs_.bindv {S : Option HI} {T : HI → Option (Int32 × HI)} {v : Int32} (a : cs_ S i h w) (b : ∀ h1, vw_ i h1 = w → fr_ i h h1 → cv_ (T h1) i h v w1) : cv_ (S.bind T) i h v w1 := by
  obtain ⟨h1, e, hv, hf⟩ := a
  rw [e]
  exact b h1 hv hf
theorem cv_.bind {S : Option (Int32 × HI)} {T : Int32 × HI → Option HI} {v : Int32} (a : cv_ S i h v w) (b : ∀ h1, vw_ i h1 = w → fr_ i h h1 → cs_ (T (v, h1)) i h w1) : cs_ (S.bind T) i h w1 := by
  obtain ⟨h1, e, hv, hf⟩ := a
  rw [e]
  exact b h1 hv hf
theorem cs_.fro {h0 : HI} {S : Option HI} (f : fr_ i h0 h) (a : cs_ S i h w) : cs_ S i h0 w := by
  obtain ⟨h1, e, hv, hf⟩ := a
  exact ⟨h1, e, hv, f.trans hf⟩
theorem cv_.fro {h0 : HI} {S : Option (Int32 × HI)} {v : Int32} (f : fr_ i h0 h) (a : cv_ S i h v w) : cv_ S i h0 v w := by
  obtain ⟨h1, e, hv, hf⟩ := a
  exact ⟨h1, e, hv, f.trans hf⟩
theorem cs_.ret {h1 : HI} (hv : vw_ i h1 = w) (hf : fr_ i h h1) : cs_ (some h1) i h w := ⟨h1, rfl, hv, hf⟩
theorem cv_.ret {h1 : HI} {v : Int32} (hv : vw_ i h1 = w) (hf : fr_ i h h1) : cv_ (some (v, h1)) i h v w := ⟨h1, rfl, hv, hf⟩
theorem ne_of {b : Bool} {α : Type} {x y : α} : (if b2 b ≠ 0 then x else y) = if b = true then x else y := by cases b <;> rfl
theorem eq_of {b : Bool} {α : Type} {x y : α} : (if b2 b = 0 then x else y) = if b = true then y else x := by cases b <;> rfl
end CSL
section CR2
variable {i : Fin 12} {hi : HI}
theorem C_lies {t : Nat} (hs : st_ (vw_ i hi)) (h7 : vw_ i hi 7 = nI (nn (vw_ i hi) 7)) (h : nn (vw_ i hi) 7 < 2 ^ 31) (ht : t < 80) : sh_X8_liesInMoonlight i (nI t) hi = some (b2 (p_lies (vw_ i hi) t)) := by
  unfold sh_X8_liesInMoonlight
  rw [C_rowOf hs (by omega), bs, C_row hs h7 h, bs, C_colOf hs (by omega), bs, at_n (mod_c hs t) (by decide), vr_cur i hi (mod_c hs t)]
  unfold p_lies
  have e1 : t / nn (vw_ i hi) 1 < 2 ^ 31 := Nat.lt_of_le_of_lt (Nat.div_le_self _ _) (by omega)
  have e2 : p_row (vw_ i hi) < 2 ^ 31 := Nat.lt_of_le_of_lt (Nat.div_le_self _ _) h
  by_cases h1 : t / nn (vw_ i hi) 1 = p_row (vw_ i hi)
  · rw [if_neg (fun h9 => h9 (by rw [h1])), decide_eq_true h1]
    by_cases h2 : vw_ i hi (26 + t % nn (vw_ i hi) 1) = 0
    · rw [if_neg (fun h9 => h9 h2), decide_eq_true h2]; rfl
    · rw [if_pos h2, decide_eq_false h2]; rfl
  · rw [if_pos (fun h9 => h1 ((nI_eq e1 e2).mp h9)), decide_eq_false h1]; rfl
theorem C_lit {G t : Nat} (hs : st_ (vw_ i hi)) (h7 : vw_ i hi 7 = nI (nn (vw_ i hi) 7)) (h : nn (vw_ i hi) 7 < 2 ^ 31) (ht : t < 80) (hG : 5 ≤ G) : sh_X8_isTileLit G i (nI t) hi = some (b2 (p_lit (vw_ i hi) t)) := by
  unfold sh_X8_isTileLit
  rw [C_out hs.2.2.2.2.2.2.2.2.1 hG, bs, C_lies hs h7 h ht, bs, eq_of, eq_of]
  unfold p_lit
  cases p_out (vw_ i hi) <;> cases p_lies (vw_ i hi) t <;> rfl
theorem C_nb {t m : Nat} (hs : st_ (vw_ i hi)) (ht : t < 80) (hm : m < 5) : sh_X8_neighbor i (nI t) (nI m) hi = some (oI (p_nb (vw_ i hi) t m)) := by
  have hr := hs.r
  have hc := hs.c
  have hmod := mod_c hs t
  have hdm : t % nn (vw_ i hi) 1 < nn (vw_ i hi) 1 := Nat.mod_lt _ (by omega)
  unfold sh_X8_neighbor
  rw [vr_1 i hi, hc.1, if_neg (nI_nle (by omega) (by omega)), if_neg (nI_ne0 (by omega) (by omega)), pk_rem (by omega) (by omega) (by omega)]
  unfold sh_X8_neighbor_19
  rw [vr_0 i hi, hr.1, pk_mul, nI_add]
  have hrc : nn (vw_ i hi) 0 * nn (vw_ i hi) 1 ≤ 80 := hs.rc.2
  have em : ∀ k : Nat, k < 5 → (nI m = nI k ↔ m = k) := fun k hk => nI_eq (by omega) (by omega)
  unfold p_nb
  by_cases h1 : m = 1
  · subst h1
    rw [if_pos (show nI 1 = (1 : Int32) from rfl), if_pos rfl]
    by_cases h2 : t < nn (vw_ i hi) 1
    · rw [if_pos (nI_lt h2 (by omega)), if_pos h2]; rfl
    · rw [if_neg (fun h9 => h2 ((nI_ltI (by omega) (by omega)).mp h9)), if_neg h2, pk_sub (by omega)]; rfl
  · rw [if_neg (show ¬ nI m = (1 : Int32) from fun h9 => h1 ((em 1 (by omega)).mp h9)), if_neg h1]
    by_cases h2 : m = 2
    · subst h2
      rw [if_pos (show nI 2 = (2 : Int32) from rfl), if_pos rfl]
      unfold p_rc
      by_cases h3 : nn (vw_ i hi) 0 * nn (vw_ i hi) 1 ≤ t + nn (vw_ i hi) 1
      · rw [if_pos (nI_le h3 (by omega)), if_pos h3]; rfl
      · rw [if_neg (fun h9 => h3 ((nI_leI (by omega) (by omega)).mp h9)), if_neg h3]; rfl
    · rw [if_neg (show ¬ nI m = (2 : Int32) from fun h9 => h2 ((em 2 (by omega)).mp h9)), if_neg h2]
      by_cases h3 : m = 3
      · subst h3
        rw [if_pos (show nI 3 = (3 : Int32) from rfl), if_pos rfl]
        by_cases h4 : t % nn (vw_ i hi) 1 = 0
        · rw [if_pos h4, h4, if_pos (show nI 0 ≤ 0 by decide)]; rfl
        · have h5 : t ≠ 0 := fun h9 => h4 (by rw [h9, Nat.zero_mod])
          rw [if_neg h4, if_neg (nI_nle (by omega) (by omega)), show (1 : Int32) = nI 1 from rfl, pk_sub (by omega)]; rfl
      · rw [if_neg (show ¬ nI m = (3 : Int32) from fun h9 => h3 ((em 3 (by omega)).mp h9)), if_neg h3]
        by_cases h4 : m = 4
        · subst h4
          rw [if_pos (show nI 4 = (4 : Int32) from rfl), if_pos rfl, nI_1]
          by_cases h5 : nn (vw_ i hi) 1 ≤ t % nn (vw_ i hi) 1 + 1
          · rw [if_pos (nI_le h5 (by omega)), if_pos h5]; rfl
          · rw [if_neg (fun h9 => h5 ((nI_leI (by omega) (by omega)).mp h9)), if_neg h5, nI_1]; rfl
        · rw [if_neg (show ¬ nI m = (4 : Int32) from fun h9 => h4 ((em 4 (by omega)).mp h9)), if_neg h4]; rfl
theorem C_room {t : Nat} (ht : t < 80) : sh_X8_hasRoomForBowl i (nI t) hi = b2 (p_free (vw_ i hi) t) := by
  unfold sh_X8_hasRoomForBowl p_free
  rw [at_n ht (by decide), at_n ht (by decide), vr_bowl i hi ht, vr_spill i hi ht]
  by_cases h1 : vw_ i hi (84 + t) = 0
  · rw [if_neg (fun h => h h1), decide_eq_true h1]
    by_cases h2 : vw_ i hi (244 + t) = 0
    · rw [if_neg (fun h => h h2), decide_eq_true h2]; rfl
    · rw [if_pos h2, decide_eq_false h2]; rfl
  · rw [if_pos h1, decide_eq_false h1]; rfl
theorem C_tries {G : Nat} (hs : in_ (vw_ i hi) 24 0 4) (hG : 5 ≤ G) : sh_X8_triedSteps G i hi = some (p_tries (vw_ i hi)) := by
  unfold sh_X8_triedSteps p_tries
  rw [C_out hs hG, bs, C_shine, bs, vr_3 i hi, eq_of]
  by_cases h : p_out (vw_ i hi) = true
  · rw [if_pos h, if_pos h]
  · rw [if_neg h, if_neg h]
end CR2
