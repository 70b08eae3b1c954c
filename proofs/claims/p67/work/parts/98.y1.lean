/-! the law's functions, small ones: what they give -/
theorem cD_ {ρ : Type} {K i : Nat} {T : Nat → Option ρ} : cD K (dr K i) T = T i := by
  show (if K = K then T i else none) = T i
  rw [if_pos rfl]
theorem gi_ {ρ : Type} {t n : Nat} {T : Option ρ} (h : t < n) (hn : n < 2 ^ 31) : (if 0 ≤ nI t ∧ (nI t).toNatClampNeg < n then T else none) = T := if_pos ⟨nI_pos' (by omega), by rw [nI_clamp (by omega)]; exact h⟩
theorem gl_ {ρ : Type} {k n : Nat} {T : Option ρ} (h : k < n) : (if k < n then T else none) = T := if_pos h
theorem cB3_ {α ρ : Type} {a : α} {h : HI} {x : AX} {T : α → HI → AX → Option ρ} : cB3 (some (a, h, x)) T = T a h x := rfl
theorem cB2_ {ρ : Type} {h : HI} {x : AX} {T : HI → AX → Option ρ} : cB2 (some (h, x)) T = T h x := rfl
theorem cBd_ {α ρ : Type} {a : α} {T : α → Option ρ} : cBd (some a) T = T a := rfl
theorem cH_ {ρ : Type} {h : HI} {T : HI → Option ρ} : cH h T = T h := rfl
theorem cAx_ {ρ : Type} {x : AX} {T : AX → Option ρ} : cAx x T = T x := rfl
theorem cMk_ {ρ : Type} {x : AX} {tg n : Nat} {T : AX → Option ρ} (h : n ≤ 65536) : cMk x tg (nI n) T = T (xm x tg n) := by
  unfold cMk
  rw [nI_clamp (by omega), if_pos ⟨nI_pos' (by omega), h⟩]
section SM
variable {A A1 : As_} {hi : HI} {x : AX} {K G b v : Nat}
theorem K_cell {k : Nat} (hk : k < 2 ^ 31) (hs : slx x < 2 ^ 31) : ∃ z, sl_L_cell (nI k) hi x = some (z, hi, x) := by
  unfold sl_L_cell
  by_cases c : nI (slx x) ≤ nI k
  · exact ⟨_, if_pos c⟩
  · rw [if_neg c]
    have c2 : k < slx x := by
      rcases Nat.lt_or_ge k (slx x) with q | q
      · exact q
      · exact absurd (nI_le q hk) c
    exact ⟨_, gi_ c2 hs⟩
theorem K_tiles {r c : Nat} (f0 : hi (da 12 b) 0 = nI r) (f1 : hi (da 12 b) 1 = nI c) : sl_X10_tiles b hi x = some (nI (r * c), hi, x) := by
  unfold sl_X10_tiles
  rw [f0, f1, pk_mul]
/-- lit tiles are in one row -/
theorem K_oneRow_l (hG : 5 ≤ G) (hO : Ok_ K A) (H : RC A hi x) (e : A.ld = true) (f0 : hi (da 12 b) 0 = nI (nn A.w 0)) (f1 : hi (da 12 b) 1 = nI (nn A.w 1)) : ∀ n F t, t + n = p_rc A.w → n < F → sl_L_isOneRow_2 G b F (nI t) hi x = some (1, hi, x) := fun n => by
  have hr := rcOk hO e
  have hc := (hO.ib e).1.c
  induction n with
  | zero =>
    intro F t ht hF
    obtain ⟨F, rfl⟩ : ∃ F2, F = F2 + 1 := ⟨F - 1, by omega⟩
    show sl_L_isOneRow_2_b G b (sl_L_isOneRow_2 G b F) (nI t) hi x = some (1, hi, x)
    unfold sl_L_isOneRow_2_b
    rw [K_tiles f0 f1, cB3_]
    exact if_pos (nI_le (show nn A.w 0 * nn A.w 1 ≤ t by show p_rc A.w ≤ t; omega) (by omega))
  | succ n ih =>
    intro F t ht hF
    obtain ⟨F, rfl⟩ : ∃ F2, F = F2 + 1 := ⟨F - 1, by omega⟩
    show sl_L_isOneRow_2_b G b (sl_L_isOneRow_2 G b F) (nI t) hi x = some (1, hi, x)
    unfold sl_L_isOneRow_2_b
    have h2 : t < p_rc A.w := by omega
    rw [K_tiles f0 f1, cB3_, if_neg (nI_ge (show t < nn A.w 0 * nn A.w 1 from h2) (by show p_rc A.w < _; omega)), Cv_isLit hG hO H e h2, cB3_]
    have ih2 := ih F (t + 1) (by omega) (by omega)
    rw [← nI_1] at ih2
    cases hl : p_lit A.w t with
    | false => exact (if_pos rfl).trans ih2
    | true =>
      rw [if_neg (by decide), f1, if_neg (nI_ne0 (by omega) (by omega)), Cv_moonRow hO H e, cB3_, pk_div (by omega) (by omega) (by omega)]
      have hl2 : t / nn A.w 1 = p_row A.w := by
        unfold p_lit p_lies at hl
        simp only [Bool.and_eq_true, decide_eq_true_eq] at hl
        exact hl.2.1
      rw [hl2]
      exact (if_pos rfl).trans ih2
theorem K_oneRow (hG : 100 ≤ G) (hO : Ok_ K A) (H : RC A hi x) (e : A.ld = true) (f0 : hi (da 12 b) 0 = nI (nn A.w 0)) (f1 : hi (da 12 b) 1 = nI (nn A.w 1)) : sl_L_isOneRow G b hi x = some (1, hi, x) := by
  have hr := rcOk hO e
  exact K_oneRow_l (by omega) hO H e f0 f1 (p_rc A.w) G 0 (by omega) (by omega)
/-- behind minutes the walker is in the light, or nowhere -/
def pla_ (w : Wd) : Prop := p_out w = true → w 8 ≠ -1 → p_lit w (nn w 8) = true
theorem K_placed (hG : 5 ≤ G) (hO : Ok_ K A) (H : RC A hi x) (e : A.ld = true) (hp : pla_ A.w) : sl_L_isPlaced G hi x = some (1, hi, x) := by
  unfold sl_L_isPlaced
  rw [Cv_moonShines hG hO H e, cB3_]
  cases ho : p_out A.w with
  | false => rfl
  | true =>
    rw [if_neg (by decide), Cv_walkerTile H e, cB3_]
    have hw := (hO.ib e).2.2.1.1
    by_cases c : A.w 8 = -1
    · rw [c, if_pos (by decide)]
    · obtain ⟨w1, w2⟩ : A.w 8 = nI (nn A.w 8) ∧ nn A.w 8 < p_rc A.w := by
        rcases hw.1 with q | q
        · exact absurd q c
        · exact q
      have hr := rcOk hO e
      rw [w1, if_neg (nI_pos (by omega)), Cv_walkerTile H e, cB3_, w1, Cv_isLit hG hO H e w2, cB3_, hp ho c]
      rfl
end SM
