/-! what stands before the walker; a tile's picture: both sides -/
def p_wy (w : Wd) : Option Nat → Nat
  | none => 4
  | some u => if w (26 + u % nn w 1) = 0 then (if w (244 + u) = 0 then 0 else 6) else 5
def p_why (w : Wd) : Nat := if w 8 = -1 then 1 else if p_out w = false then 2 else if w 11 ≤ 0 then p_wy w (p_nb w (nn w 8) (p_way w)) else 3
def p_pic (w : Wd) (t : Nat) : Int32 := if w 8 = nI t then 87 else if w 16 = nI t then 67 else if w (84 + t) ≠ 0 then 111 else if w (244 + t) ≠ 0 then 126 else if w (164 + t) ≠ 0 then 114 else if p_lit w t = true then 42 else 46
section WHY
variable {i : Fin 12} {hi : HI}
theorem le_if {x : Int32} {α : Type} {a b : α} (h : x ≤ 0 ↔ x = 0) : (if x ≤ 0 then a else b) = if x = 0 then a else b := by
  by_cases c : x = 0
  · rw [if_pos c, if_pos (h.mpr c)]
  · rw [if_neg c, if_neg (fun q => c (h.mp q))]
theorem C_why_57 {w : Wd} (e : vw_ i hi = w) (hs : st_ w) (hti : ti_ w) (hcu : cu_ w) (o : Option Nat) (ho : ∀ u, o = some u → u < 80) {m t : Nat} (hn : sh_X8_neighbor i (nI t) (nI m) hi = some (oI o)) {G : Nat} : sh_X8_obstacle_57 G i hi (nI m) (nI t) = some (nI (p_wy w o)) := by
  unfold sh_X8_obstacle_57
  rw [hn, bs]
  cases o with
  | none => rw [if_neg (fun q => q (show oI none = -1 from rfl))]; rfl
  | some u =>
    have hu := ho u rfl
    rw [if_pos (show oI (some u) ≠ -1 from nI_m1 (by omega)), show oI (some u) = nI u from rfl, C_colOf (by rw [e]; exact hs) (by omega), bs, e, at_n (mod_c hs u) (by decide), vr_cur i hi (mod_c hs u), at_n hu (by decide), vr_spill i hi hu, e, le_if (le0_ (b := 1) (by omega) (hcu _ (mod_c hs u))).1, le_if (le0_ (b := 99) (by omega) (hti.2.2.1 _ hu)).1]
    show (if w (26 + u % nn w 1) = 0 then if w (244 + u) = 0 then some (0 : Int32) else some (6 : Int32) else some (5 : Int32)) = some (nI (if w (26 + u % nn w 1) = 0 then if w (244 + u) = 0 then 0 else 6 else 5))
    split
    · split <;> rfl
    · rfl
theorem C_why {K B G : Nat} (hG : 5 ≤ G) (h : ib_ K B 0 (vw_ i hi)) : sh_X8_obstacle G i hi = some (nI (p_why (vw_ i hi))) := by
  have hs := h.1
  have h80 := hs.rc.2
  have hcu : cu_ (vw_ i hi) := h.2.2.2.2.2.2.2.2.2.2.2.1
  have h10 := h.2.2.1.1.2.2.2.1
  unfold sh_X8_obstacle p_why
  rw [vr_8 i hi, vr_11 i hi, vr_10 i hi]
  by_cases c8 : vw_ i hi 8 = -1
  · rw [if_neg (fun q => q c8), if_pos c8]; rfl
  rw [if_pos c8, if_neg c8, C_out hs.2.2.2.2.2.2.2.2.1 hG, bs, ne_of]
  cases p_out (vw_ i hi) with
  | false => rw [if_neg (by decide), if_pos rfl]; rfl
  | true =>
    rw [if_pos rfl, if_neg (show ¬ true = false by decide)]
    by_cases c11 : vw_ i hi 11 ≤ 0
    · rw [if_pos c11, if_pos c11]
      obtain ⟨e8, b8⟩ := h.2.2.1.1.1.resolve_left c8
      have b8' : nn (vw_ i hi) 8 < p_rc (vw_ i hi) := b8
      have hu : ∀ u, p_nb (vw_ i hi) (nn (vw_ i hi) 8) (p_way (vw_ i hi)) = some u → u < 80 := fun u q => Nat.lt_of_lt_of_le (p_nb_lt hs b8' q) h80
      rw [e8]
      by_cases c10 : vw_ i hi 10 = 0
      · have hw : p_way (vw_ i hi) = 3 := if_pos c10
        rw [hw] at hu ⊢
        rw [if_pos c10]
        exact C_why_57 rfl hs h.2.1 hcu _ hu (m := 3) (t := nn (vw_ i hi) 8) (C_nb hs (by omega) (by omega))
      · have hw : p_way (vw_ i hi) = 4 := if_neg c10
        rw [hw] at hu ⊢
        rw [if_neg c10]
        exact C_why_57 rfl hs h.2.1 hcu _ hu (m := 4) (t := nn (vw_ i hi) 8) (C_nb hs (by omega) (by omega))
    · rw [if_neg c11, if_neg c11]; rfl
theorem M_why {K B G : Nat} (hG : 5 ≤ G) (h : ib_ K B 0 (mw_ hi)) : sh_X10_whyBlocked G hi = some (nI (p_why (mw_ hi))) := by
  have hs := h.1
  have hc := hs.c
  have h80 := hs.rc.2
  have hcu : cu_ (mw_ hi) := h.2.2.2.2.2.2.2.2.2.2.2.1
  have h10 := h.2.2.1.1.2.2.2.1
  unfold sh_X10_whyBlocked p_why
  rw [m_8 hi, M_r hi (k := 11) (by omega)]
  by_cases c8 : mw_ hi 8 = -1
  · rw [if_neg (fun q => q c8), if_pos c8]; rfl
  rw [if_pos c8, if_neg c8, M_out hs.2.2.2.2.2.2.2.2.1 hG, bs, ne_of]
  cases p_out (mw_ hi) with
  | false => rw [if_neg (by decide), if_pos rfl]; rfl
  | true =>
    rw [if_pos rfl, if_neg (show ¬ true = false by decide)]
    by_cases c11 : mw_ hi 11 ≤ 0
    · rw [if_pos c11, if_pos c11]
      obtain ⟨e8, b8⟩ := h.2.2.1.1.1.resolve_left c8
      have b8' : nn (mw_ hi) 8 < p_rc (mw_ hi) := b8
      rw [M_ahead hs h10 e8 (by omega), bs]
      cases ho : p_nb (mw_ hi) (nn (mw_ hi) 8) (p_way (mw_ hi)) with
      | none => rw [if_neg (fun q => q (show oI none = -1 from rfl))]; rfl
      | some u =>
        have hu : u < 80 := Nat.lt_of_lt_of_le (p_nb_lt hs b8' ho) h80
        rw [if_pos (show oI (some u) ≠ -1 from nI_m1 (by omega)), show oI (some u) = nI u from rfl, m_1 hi, hc.1, if_neg (nI_ne0 (by omega) (by omega)), pk_rem (by omega) (by omega) (by omega), M_closed (mod_c hs u) (hcu _ (mod_c hs u)), bs, eq_of, M_dry hu, bs, eq_of]
        show (if (!decide (mw_ hi (26 + u % nn (mw_ hi) 1) = 0)) = true then some (5 : Int32) else if decide (mw_ hi (244 + u) = 0) = true then some (0 : Int32) else some (6 : Int32)) = some (nI (if mw_ hi (26 + u % nn (mw_ hi) 1) = 0 then if mw_ hi (244 + u) = 0 then 0 else 6 else 5))
        by_cases c1 : mw_ hi (26 + u % nn (mw_ hi) 1) = 0
        · rw [if_pos c1, decide_eq_true c1, if_neg (by decide)]
          by_cases c2 : mw_ hi (244 + u) = 0
          · rw [if_pos c2, decide_eq_true c2, if_pos rfl]; rfl
          · rw [if_neg c2, decide_eq_false c2, if_neg (by decide)]; rfl
        · rw [if_neg c1, decide_eq_false c1]; rfl
    · rw [if_neg c11, if_neg c11]; rfl
theorem C_pic {K B G t : Nat} (hG : 5 ≤ G) (ht : t < 80) (h : ib_ K B 0 (vw_ i hi)) : sh_X8_picture G i (nI t) hi = some (p_pic (vw_ i hi) t) := by
  have hs := h.1
  have hti := h.2.1
  have h7 := h.2.2.2.2.2.1
  have hl := hs.l
  have hr := hs.r
  have hb9 : nn (vw_ i hi) 0 * nn (vw_ i hi) 2 ≤ 8 * 20 := Nat.mul_le_mul hr.2.2 hl.2.2
  have h7b := h7.2
  unfold sh_X8_picture p_pic
  rw [vr_8 i hi, vr_16 i hi, at_n ht (by decide), at_n ht (by decide), at_n ht (by decide), vr_bowl i hi ht, vr_spill i hi ht, vr_rug i hi ht, le_if (le0_ (b := 1) (by omega) (hti.1 _ ht)).1, le_if (le0_ (b := 99) (by omega) (hti.2.2.1 _ ht)).1, le_if (le0_ (b := 1) (by omega) (hti.2.1 _ ht)).1, C_lit hs h7.1 (by omega) ht hG, bs, eq_of]
  simp only [ite_not, ne_eq]
  repeat (first | rfl | split)
theorem M_pic {K B G t : Nat} (hG : 5 ≤ G) (ht : t < 80) (h : ib_ K B 0 (mw_ hi)) : sh_X10_signOf G (nI t) hi = some (p_pic (mw_ hi) t) := by
  have hs := h.1
  have hti := h.2.1
  have hcu : cu_ (mw_ hi) := h.2.2.2.2.2.2.2.2.2.2.2.1
  have h7 := h.2.2.2.2.2.1
  have hl := hs.l
  have hr := hs.r
  have hb9 : nn (mw_ hi) 0 * nn (mw_ hi) 2 ≤ 8 * 20 := Nat.mul_le_mul hr.2.2 hl.2.2
  have h7b := h7.2
  have n1 : ∀ k, in_ (mw_ hi) k 0 1 → ∀ (α : Type) (a b : α), (if mw_ hi k ≠ 1 then a else b) = if mw_ hi k = 0 then a else b := fun k hk α a b => by
    rcases in01 hk with e | e <;> rw [e] <;> rfl
  unfold sh_X10_signOf p_pic
  rw [m_8 hi, M_r hi (k := 16) (by omega), A84, A164, if_pos (ok4 (by omega)), if_pos (ok4 (by omega)), nI_clamp (by omega), nI_clamp (by omega), M_r hi (k := 84 + t) (by omega), M_r hi (k := 164 + t) (by omega), n1 _ (hti.1 _ ht), n1 _ (hti.2.1 _ ht), M_dry ht, bs, ne_of, M_lit hs hcu h7.1 (by omega) ht hG, bs, eq_of]
  by_cases a1 : mw_ hi 8 = nI t
  · rw [if_neg (fun q => q a1), if_pos a1]
  rw [if_pos a1, if_neg a1]
  by_cases a2 : mw_ hi 16 = nI t
  · rw [if_neg (fun q => q a2), if_pos a2]
  rw [if_pos a2, if_neg a2]
  by_cases a3 : mw_ hi (84 + t) = 0
  · rw [if_pos a3, if_neg (show ¬ mw_ hi (84 + t) ≠ 0 from fun q => q a3)]
    by_cases a4 : mw_ hi (244 + t) = 0
    · rw [decide_eq_true a4, if_pos rfl, if_neg (show ¬ mw_ hi (244 + t) ≠ 0 from fun q => q a4)]
      by_cases a5 : mw_ hi (164 + t) = 0
      · rw [if_pos a5, if_neg (show ¬ mw_ hi (164 + t) ≠ 0 from fun q => q a5)]
        cases p_lit (mw_ hi) t <;> rfl
      · rw [if_neg a5, if_pos a5]
    · rw [decide_eq_false a4, if_neg (by decide), if_pos a4]
  · rw [if_neg a3, if_pos a3]
end WHY
