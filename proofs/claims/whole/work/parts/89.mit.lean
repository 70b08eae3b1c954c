/-! the model: tiles -/
def wh (q : Fin 37) : Nat := if q = 13 then 2 else if q = 14 then 0 else 1
/-- no more rugs than there may be -/
def RG (w : Wd) : Prop := p_mk w 164 80 ≤ 6
theorem x_hd13 {a d : Nat} {w : Wd} {k : Nat} (h : ∀ i, i < k → 164 + (a + i * d) ≠ 164 + (a + k * d)) : x_hd 13 a d k w (164 + (a + k * d)) = w (164 + (a + k * d)) := by
  have : ∀ m, m ≤ k → x_hd 13 a d m w (164 + (a + k * d)) = w (164 + (a + k * d)) := fun m => by
    induction m with
    | zero => intro _; rfl
    | succ m ih =>
      intro hm
      rw [x_hd_s]
      unfold x_h1
      split
      · rw [if_pos rfl, upd_ne (fun e => h m (by omega) e.symm)]
        exact ih (by omega)
      · exact ih (by omega)
  exact this k (Nat.le_refl _)
theorem line_ne {a d i k : Nat} (hd : 1 ≤ d) (h : i < k) : 164 + (a + i * d) ≠ 164 + (a + k * d) := by
  have h1 : (i + 1) * d ≤ k * d := Nat.mul_le_mul_right _ h
  rw [Nat.succ_mul] at h1
  omega
theorem mk_hd {a d : Nat} {w : Wd} (hd : 1 ≤ d) : ∀ k, (∀ i, i < k → a + i * d < 80) → p_mk (x_hd 13 a d k w) 164 80 = p_mk w 164 80 + x_cnt 13 w a d k
  | 0, _ => (Nat.add_zero (p_mk w 164 80)).symm
  | k + 1, h => by
    have ih := mk_hd (w := w) hd k (fun i hi => h i (by omega))
    have e := x_hd13 (a := a) (d := d) (w := w) (k := k) (fun i hi => line_ne hd hi)
    have hk := h k (by omega)
    rw [x_hd_s, x_cnt_s]
    unfold x_h1
    have ew : x_want 13 (x_hd 13 a d k w) (a + k * d) = x_want 13 w (a + k * d) := by
      unfold x_want
      rw [if_pos rfl, if_pos rfl, e]
    rw [ew]
    by_cases c : x_want 13 w (a + k * d) = true
    · rw [if_pos c, if_pos rfl, if_pos c]
      have h0 : x_hd 13 a d k w (164 + (a + k * d)) = 0 := by
        rw [e]
        unfold x_want at c
        rw [if_pos rfl] at c
        exact of_decide_eq_true c
      rw [p_mk_up h0, if_pos hk, ih]
      omega
    · rw [if_neg c, if_neg c, ih]
      rfl
section MI
variable {V : TV} {h h0 : HI} {s sim dep G : Nat} {w : Wd} {beg : Bool} {q : Fin 37}
theorem M_can_do {t : Nat} (hq : q = 13 ∨ q = 14 ∨ q = 16) (ht : t < 80) (H : MB V h s w sim beg dep) : sh_X10_canDo (nI (wh q)) (nI t) h = some (b2 (x_want q w t)) := by
  unfold sh_X10_canDo x_want
  rw [M_empty ht, bs, M_dry ht, bs, A164, if_pos (ok4 (by omega)), nI_clamp (by omega), M_r h (k := 164 + t) (by omega), H.mw]
  rcases hq with rfl | rfl | rfl
  · rw [if_pos rfl, if_neg (show ¬ nI (wh 13) = 0 by decide), if_neg (show ¬ nI (wh 13) = 1 by decide)]
    by_cases c : w (164 + t) = 0
    · rw [if_neg (fun q => q c), decide_eq_true c]; rfl
    · rw [if_pos c, decide_eq_false c]; rfl
  · rw [if_neg (show ¬ (14 : Fin 37) = 13 by decide), if_pos rfl, if_pos (show nI (wh 14) = 0 by decide)]
    cases p_free w t
    · exact if_pos (Or.inl rfl)
    · exact if_pos (Or.inr rfl)
  · rw [if_neg (show ¬ (16 : Fin 37) = 13 by decide), if_neg (show ¬ (16 : Fin 37) = 14 by decide), if_neg (show ¬ nI (wh 16) = 0 by decide), if_pos (show nI (wh 16) = 1 by decide)]
    cases decide (w (244 + t) = 0) <;> rfl
/-- a tile that is wanted -/
theorem M_does {t : Nat} (hq : q = 13 ∨ q = 14 ∨ q = 16) (hb : q = 13 → beg = false) (ht : t < 80) (hw : x_want q w t = true) (h6 : q = 13 → p_mk w 164 80 < 6) (H : MB V h s w sim beg dep) : ∃ h1, sh_X10_does (nI (wh q)) (nI t) h = some h1 ∧ MB V h1 s (x_h1 q w t) sim beg dep ∧ fq_ h h1 := by
  unfold sh_X10_does x_h1
  rw [if_pos hw]
  rcases hq with rfl | rfl | rfl
  · have h25 := H.2.2.2.2.2.2.2.2 (hb rfl)
    have hlt := h6 rfl
    rw [if_pos (show nI (wh 13) ≠ 0 by decide), if_pos (show nI (wh 13) ≠ 1 by decide), if_pos rfl]
    unfold sh_X10_laysRug sh_X10_laysRug_17
    rw [h25, if_pos (show nI (p_mk w 164 80) ≠ (6 : Int32) from fun q => by have := (nI_eq (b := 6) (by omega) (by omega)).mp q; omega), H.al, if_pos (Int32.le_refl _), A164, if_pos (ok4 (by omega)), nI_clamp (by omega), bs, bs, au_k (by omega), h25, nI_1]
    have h0 : w (164 + t) = 0 := by
      unfold x_want at hw
      rw [if_pos rfl] at hw
      exact of_decide_eq_true hw
    refine ⟨_, rfl, H.wd ?_ (fm_.refl h).u.u (fun _ => ?_), (fq_.refl h).u6.u6⟩
    · have e : mw_ (am_u (am_u h (za 196) (164 + t) 1) (za 196) 25 (nI (p_mk w 164 80 + 1))) = mw_ (am_u h (za 196) (164 + t) 1) := by
        unfold mw_
        congr 1
        funext k
        unfold rm_
        by_cases c : k < 424 ∧ k ≠ 25
        · rw [if_pos c, if_pos c, au_k c.2]
        · rw [if_neg c, if_neg c]
      rw [e, M_u (by omega), H.mw]
    · rw [au_, p_mk_up h0, if_pos ht]
  · rw [if_neg (show ¬ nI (wh 14) ≠ 0 by decide), if_neg (show ¬ (14 : Fin 37) = 13 by decide), if_pos rfl, A84, if_pos (ok4 (by omega)), nI_clamp (by omega), bs]
    refine ⟨_, rfl, H.u6 (Or.inr (by omega)) (Or.inl (by omega)), (fq_.refl h).u6⟩
  · rw [if_pos (show nI (wh 16) ≠ 0 by decide), if_neg (show ¬ nI (wh 16) ≠ 1 by decide), if_neg (show ¬ (16 : Fin 37) = 13 by decide), if_neg (show ¬ (16 : Fin 37) = 14 by decide), A244, if_pos (ok4 (by omega)), nI_clamp (by omega), bs]
    refine ⟨_, rfl, H.u6 (Or.inr (by omega)) (Or.inr (by omega)), (fq_.refl h).u6⟩
/-- one rug too many -/
theorem M_does6 {t : Nat} (hb : beg = false) (h6 : p_mk w 164 80 = 6) (H : MB V h s w sim beg dep) : ∃ h1, sh_X10_does (nI (wh 13)) (nI t) h = some h1 ∧ MD h1 4 s ∧ fq_ h h1 := by
  have h25 := H.2.2.2.2.2.2.2.2 hb
  unfold sh_X10_does
  rw [if_pos (show nI (wh 13) ≠ 0 by decide), if_pos (show nI (wh 13) ≠ 1 by decide)]
  unfold sh_X10_laysRug sh_X10_laysRug_17
  obtain ⟨h1, e1, x1, f1⟩ := M_flt (c := 4) (by omega) H
  rw [h25, h6, if_neg (fun q => q rfl), show (4 : Int32) = nI 4 from rfl, e1, bs, if_neg x1.d, bs]
  exact ⟨h1, rfl, x1, f1⟩
/-- a line of tiles, behind its number -/
def mlS (G : Nat) (q : Fin 37) (row : Bool) (F : Nat) (v i : Nat) (h : HI) : Option HI := if row = true then sh_X10_doesRow_20 G (nI (wh q)) F (nI v) (nI i) h else sh_X10_doesColumn_20 G (nI (wh q)) F (nI v) (nI i) h
def mlA (w : Wd) (row : Bool) (v : Nat) : Nat := if row = true then v * nn w 1 else v
def mlD (w : Wd) (row : Bool) : Nat := if row = true then 1 else nn w 1
def mlL (w : Wd) (row : Bool) : Nat := if row = true then nn w 1 else nn w 0
theorem mlA_cg {w1 w : Wd} {row : Bool} {v : Nat} (e : nn w1 1 = nn w 1) : mlA w1 row v = mlA w row v := by unfold mlA; rw [e]
theorem mlD_cg {w1 w : Wd} {row : Bool} (e : nn w1 1 = nn w 1) : mlD w1 row = mlD w row := by unfold mlD; rw [e]
theorem mlL_cg {w1 w : Wd} {row : Bool} (e0 : nn w1 0 = nn w 0) (e : nn w1 1 = nn w 1) : mlL w1 row = mlL w row := by unfold mlL; rw [e0, e]
theorem mlS_s {row : Bool} {F v i : Nat} {w1 : Wd} (hs : st_ w1) (e : mw_ h = w1) (hv : v < 2 ^ 20) (hi : i < 2 ^ 20) : mlS G q row (F + 1) v i h = if mlL w1 row ≤ i then (sh_X10_goes G h).bind fun h5 => some h5 else if h (za 195) 10 ≠ 0 then (sh_X10_goes G h).bind fun h5 => some h5 else (sh_X10_doesIfCan (nI (wh q)) (nI (mlA w1 row v + i * mlD w1 row)) h).bind fun h7 => mlS G q row F v (i + 1) h7 := by
  have hr := hs.r
  have hc := hs.c
  unfold mlS mlL mlA mlD
  cases row with
  | true =>
    rw [if_pos rfl, if_pos rfl, if_pos rfl, if_pos rfl]
    show sh_X10_doesRow_20_b G (nI (wh q)) (sh_X10_doesRow_20 G (nI (wh q)) F) (nI v) (nI i) h = _
    unfold sh_X10_doesRow_20_b sh_X10_doesRow_58
    rw [m_1 h, e, hc.1, pk_mul, nI_add, nI_1, Nat.mul_one]
    by_cases c : nn w1 1 ≤ i
    · rw [if_pos (nI_le c (by omega)), if_pos c]
    · rw [if_neg (nI_ge (by omega) (by omega)), if_neg c]
      rfl
  | false =>
    have z : ¬ (false = true) := by decide
    rw [if_neg z, if_neg z, if_neg z, if_neg z]
    show sh_X10_doesColumn_20_b G (nI (wh q)) (sh_X10_doesColumn_20 G (nI (wh q)) F) (nI v) (nI i) h = _
    unfold sh_X10_doesColumn_20_b sh_X10_doesColumn_58
    rw [m_0 h, m_1 h, e, hr.1, hc.1, pk_mul, nI_add, nI_1, Nat.add_comm (i * nn w1 1) v]
    by_cases c : nn w1 0 ≤ i
    · rw [if_pos (nI_le c (by omega)), if_pos c]
    · rw [if_neg (nI_ge (by omega) (by omega)), if_neg c]
      rfl
theorem mlS_dead {row : Bool} {F v i : Nat} (D : Dd h) : mlS G q row (F + 1) v i h = some h := by
  unfold mlS
  cases row with
  | true =>
    rw [if_pos rfl]
    show sh_X10_doesRow_20_b G (nI (wh q)) (sh_X10_doesRow_20 G (nI (wh q)) F) (nI v) (nI i) h = _
    unfold sh_X10_doesRow_20_b sh_X10_doesRow_58
    rw [D_go D, bs, if_pos D.ne]
    split <;> rfl
  | false =>
    rw [if_neg (by decide)]
    show sh_X10_doesColumn_20_b G (nI (wh q)) (sh_X10_doesColumn_20 G (nI (wh q)) F) (nI v) (nI i) h = _
    unfold sh_X10_doesColumn_20_b sh_X10_doesColumn_58
    rw [D_go D, bs, if_pos D.ne]
    split <;> rfl
theorem M_ml {row : Bool} {v : Nat} {w : Wd} (hG : 501 < G) (hq : q = 13 ∨ q = 14 ∨ q = 16) (hb : q = 13 → beg = false) (hs : st_ w) (hti : ti_ w) (hv : v < 2 ^ 20) (hl : ∀ i, i < mlL w row → mlA w row v + i * mlD w row < nn w 0 * nn w 1) (h6 : q = 13 → RG w) : ∀ (f i F : Nat) (h : HI), i + f = mlL w row → f < F → fq_ h0 h → MB V h s (x_hd q (mlA w row v) (mlD w row) i w) sim beg dep → (q = 13 → p_mk w 164 80 + x_cnt 13 w (mlA w row v) (mlD w row) i ≤ 6) → mr_ V beg dep (mlS G q row F v i h) h0 (x_line V q s w sim (mlA w row v) (mlD w row) (mlL w row)) := fun f => by
  induction f with
  | zero =>
    intro i F h hi hF f0 H hr
    obtain ⟨F, rfl⟩ : ∃ F2, F = F2 + 1 := ⟨F - 1, by omega⟩
    have h80 := hs.rc.2
    have hrr := hs.r
    have hcc := hs.c
    have hL10 : mlL w row ≤ 10 := by unfold mlL; split <;> omega
    obtain ⟨g1, g2⟩ := x_hd_inv (q := q) (a := mlA w row v) (d := mlD w row) hti h80 i (fun j hj => hl j (by omega))
    have hs1 : st_ (x_hd q (mlA w row v) (mlD w row) i w) := hs.cg (fun k hk => g2 k (by unfold sk at hk; omega))
    have e0 : nn (x_hd q (mlA w row v) (mlD w row) i w) 0 = nn w 0 := nn_cg (g2 0 (by omega))
    have e1 : nn (x_hd q (mlA w row v) (mlD w row) i w) 1 = nn w 1 := nn_cg (g2 1 (by omega))
    have eL : mlL (x_hd q (mlA w row v) (mlD w row) i w) row = mlL w row := mlL_cg e0 e1
    rw [mlS_s hs1 H.mw hv (by omega), eL, if_pos (show mlL w row ≤ i by omega)]
    obtain ⟨h1, e1', H1, f1⟩ := M_go hG H
    rw [e1', bs]
    unfold x_line
    have ei : i = mlL w row := by omega
    rw [if_neg (fun z => by
      obtain ⟨z1, z2⟩ := z
      have := hr z1
      subst z1
      rw [ei] at this
      omega), ← ei]
    exact mr_ret H1 (f0.trans f1)
  | succ f ih =>
    intro i F h hi hF f0 H hr
    obtain ⟨F, rfl⟩ : ∃ F2, F = F2 + 1 := ⟨F - 1, by omega⟩
    have h80 : nn w 0 * nn w 1 ≤ 80 := hs.rc.2
    have hrr := hs.r
    have hcc := hs.c
    have hL10 : mlL w row ≤ 10 := by unfold mlL; split <;> omega
    obtain ⟨g1, g2⟩ := x_hd_inv (q := q) (a := mlA w row v) (d := mlD w row) hti h80 i (fun j hj => hl j (by omega))
    have hs1 : st_ (x_hd q (mlA w row v) (mlD w row) i w) := hs.cg (fun k hk => g2 k (by unfold sk at hk; omega))
    have e0 : nn (x_hd q (mlA w row v) (mlD w row) i w) 0 = nn w 0 := nn_cg (g2 0 (by omega))
    have e1 : nn (x_hd q (mlA w row v) (mlD w row) i w) 1 = nn w 1 := nn_cg (g2 1 (by omega))
    have eL : mlL (x_hd q (mlA w row v) (mlD w row) i w) row = mlL w row := mlL_cg e0 e1
    have eA : mlA (x_hd q (mlA w row v) (mlD w row) i w) row v = mlA w row v := mlA_cg e1
    have eD : mlD (x_hd q (mlA w row v) (mlD w row) i w) row = mlD w row := mlD_cg e1
    have ht := hl i (by omega)
    rw [mlS_s hs1 H.mw hv (by omega), eL, eA, eD, if_neg (show ¬ mlL w row ≤ i by omega), if_neg (fun z => z H.al)]
    unfold sh_X10_doesIfCan
    rw [M_can_do hq (by omega) H, bs, eq_of]
    have hd1 : 1 ≤ mlD w row := by unfold mlD; split <;> omega
    have hx : x_hd q (mlA w row v) (mlD w row) (i + 1) w = x_h1 q (x_hd q (mlA w row v) (mlD w row) i w) (mlA w row v + i * mlD w row) := rfl
    by_cases c : x_want q (x_hd q (mlA w row v) (mlD w row) i w) (mlA w row v + i * mlD w row) = true
    · rw [if_pos c]
      by_cases cq : q = 13
      · subst cq
        have emk := mk_hd (a := mlA w row v) (d := mlD w row) (w := w) hd1 i (fun j hj => by have := hl j (by omega); omega)
        have hri := hr rfl
        have ecnt : x_cnt 13 w (mlA w row v) (mlD w row) (i + 1) = x_cnt 13 w (mlA w row v) (mlD w row) i + 1 := by
          rw [x_cnt_s, if_pos]
          have e := x_hd13 (a := mlA w row v) (d := mlD w row) (w := w) (k := i) (fun j hj => line_ne hd1 hj)
          unfold x_want at c ⊢
          rw [if_pos rfl] at c ⊢
          rw [e] at c
          exact c
        by_cases c6 : p_mk w 164 80 + x_cnt 13 w (mlA w row v) (mlD w row) i = 6
        · obtain ⟨h1, e1', x1, f1⟩ := M_does6 (t := mlA w row v + i * mlD w row) (hb rfl) (by rw [emk]; exact c6) H
          obtain ⟨F, rfl⟩ : ∃ F2, F = F2 + 1 := ⟨F - 1, by omega⟩
          rw [e1', bs, bs, mlS_dead x1.d]
          unfold x_line
          have hmono : ∀ m, x_cnt 13 w (mlA w row v) (mlD w row) (i + 1) ≤ x_cnt 13 w (mlA w row v) (mlD w row) (i + 1 + m) := fun m => by
            induction m with
            | zero => exact Nat.le_refl _
            | succ m ihm =>
              refine Nat.le_trans ihm ?_
              rw [← Nat.add_assoc, x_cnt_s]
              exact Nat.le_add_right _ _
          have := hmono f
          rw [show i + 1 + f = mlL w row by omega] at this
          rw [if_pos ⟨rfl, by omega⟩]
          exact mr_dead x1 (f0.trans f1)
        · obtain ⟨h1, e1', H1, f1⟩ := M_does (q := 13) (Or.inl rfl) hb (by omega) c (fun _ => by rw [emk]; omega) H
          rw [e1', bs, bs]
          rw [← hx] at H1
          exact ih (i + 1) F h1 (by omega) (by omega) (f0.trans f1) H1 (fun _ => by rw [ecnt]; omega)
      · obtain ⟨h1, e1', H1, f1⟩ := M_does hq hb (by omega) c (fun z => absurd z cq) H
        rw [e1', bs, bs]
        rw [← hx] at H1
        exact ih (i + 1) F h1 (by omega) (by omega) (f0.trans f1) H1 (fun z => absurd z cq)
    · rw [if_neg c, bs]
      have hx2 : x_hd q (mlA w row v) (mlD w row) (i + 1) w = x_hd q (mlA w row v) (mlD w row) i w := by
        rw [hx]
        unfold x_h1
        rw [if_neg c]
      refine ih (i + 1) F h (by omega) (by omega) f0 (by rw [hx2]; exact H) (fun z => ?_)
      subst z
      rw [x_cnt_s, if_neg (fun z2 => c (by
        have e := x_hd13 (a := mlA w row v) (d := mlD w row) (w := w) (k := i) (fun j hj => line_ne hd1 hj)
        unfold x_want at z2 ⊢
        rw [if_pos rfl] at z2 ⊢
        rw [e]; exact z2))]
      exact hr rfl
theorem RG_0 {a d : Nat} (h : RG w) : p_mk w 164 80 + x_cnt 13 w a d 0 ≤ 6 := by
  unfold RG at h
  show p_mk w 164 80 + 0 ≤ 6
  rw [Nat.add_zero]
  exact h
/-- an item -/
theorem mr_item (hG : 501 < G) (hq : q = 13 ∨ q = 14 ∨ q = 16) (hb : q = 13 → beg = false) (hs : st_ w) (hti : ti_ w) (h6 : q = 13 → RG w) (f0 : fq_ h0 h) (H : MB V h s w sim beg dep) : mr_ V beg dep (sh_X10_doesItem G (nI (wh q)) h) h0 (x_item V q s w sim) := by
  have hr := hs.r
  have hc := hs.c
  have h4 := hs.rc
  unfold sh_X10_doesItem x_item
  rw [M_word (j := 42) (q := 24) (by decide) (by decide) rfl (by omega) H, bs, eq_of, M_word (j := 43) (q := 25) (by decide) (by decide) rfl (by omega) H, bs, eq_of]
  have hE : ∀ (row : Bool) h1, Dd h1 → ∃ h2, mlS G q row G 0 0 h1 = some h2 ∧ h2 (za 195) 10 = h1 (za 195) 10 ∧ h2 (za 195) 11 = h1 (za 195) 11 ∧ fq_ h1 h2 := fun row h1 D => by
    obtain ⟨F, hF⟩ : ∃ F, G = F + 1 := ⟨G - 1, by omega⟩
    exact ⟨h1, by rw [hF]; exact mlS_dead D, rfl, rfl, fq_.refl h1⟩
  by_cases c1 : sgV V s = 24
  · rw [decide_eq_true c1, if_pos rfl, if_pos c1]
    refine mr_bs ?_
    unfold sh_X10_doesRow
    obtain ⟨h2, e2, H2, f2⟩ := M_go hG H
    rw [e2, bs, m_0 h2, H2.mw, hr.1, S1_ (by omega)]
    refine mr_nh (lo := 0) (f0.trans f2) (by omega) (by omega) H2 (fun v a1 a2 a3 => ?_) (fun h1 D => hE true h1 D)
    exact M_ml (row := true) hG hq hb hs hti (by omega) (row_in hs a3) h6 _ 0 G h2 (Nat.zero_add _) (by show nn w 1 < G; omega) (f0.trans f2) H2 (fun z => RG_0 (h6 z))
  · rw [decide_eq_false c1, if_neg (by decide), if_neg c1]
    by_cases c2 : sgV V s = 25
    · rw [decide_eq_true c2, if_pos rfl, if_pos c2]
      refine mr_bs ?_
      unfold sh_X10_doesColumn
      obtain ⟨h2, e2, H2, f2⟩ := M_go hG H
      rw [e2, bs, m_1 h2, H2.mw, hc.1, S1_ (by omega)]
      refine mr_nh (lo := 0) (f0.trans f2) (by omega) (by omega) H2 (fun v a1 a2 a3 => ?_) (fun h1 D => hE false h1 D)
      exact M_ml (row := false) hG hq hb hs hti (by omega) (col_in hs a3) h6 _ 0 G h2 (Nat.zero_add _) (by show nn w 0 < G; omega) (f0.trans f2) H2 (fun z => RG_0 (h6 z))
    · rw [decide_eq_false c2, if_neg (by decide), if_neg c2]
      refine mr_bs ?_
      unfold sh_X10_doesTile
      rw [M_tilesW hs H, bs, S1_ (by omega)]
      refine mr_nh (lo := 0) f0 (by omega) (by omega) H (fun v a1 a2 a3 => ?_) (fun h1 D => ⟨h1, ?_, rfl, rfl, fq_.refl h1⟩)
      · show mr_ V beg dep (if h (za 195) 10 ≠ 0 then sh_X10_doesTile_33 G (nI (wh q)) (nI v) h else (sh_X10_canDo (nI (wh q)) (nI v) h).bind fun v7 => if v7 ≠ 0 then sh_X10_doesTile_33 G (nI (wh q)) (nI v) h else (sh_X10_faults (3 : Int32) h).bind fun h9 => sh_X10_doesTile_33 G (nI (wh q)) (nI v) h9) h0 (if x_want q w v = true then x_line V q s w sim v 1 1 else Sum.inl (3, s))
        unfold sh_X10_doesTile_33 sh_X10_doesTile_46
        rw [if_neg (fun z => z H.al), M_can_do hq (by omega) H, bs, ne_of]
        by_cases c : x_want q w v = true
        · rw [if_pos c, if_pos c, if_neg (fun z => z H.al)]
          unfold x_line
          have ec : x_cnt q w v 1 1 = 1 := by
            rw [x_cnt_s]
            show 0 + (if x_want q w (v + 0 * 1) = true then 1 else 0) = 1
            rw [show v + 0 * 1 = v by omega, if_pos c]
          have eh : x_hd q v 1 1 w = x_h1 q w v := by
            rw [x_hd_s]
            show x_h1 q w (v + 0 * 1) = _
            rw [show v + 0 * 1 = v by omega]
          rw [ec, eh]
          by_cases c6 : q = 13 ∧ p_mk w 164 80 = 6
          · obtain ⟨z1, z2⟩ := c6
            subst z1
            obtain ⟨h1, e1, x1, f1⟩ := M_does6 (t := v) (hb rfl) z2 H
            rw [e1, bs, D_go x1.d, bs, if_pos ⟨rfl, by omega⟩]
            exact mr_dead x1 (f0.trans f1)
          · obtain ⟨h1, e1, H1, f1⟩ := M_does hq hb (by omega) c (fun z => by
              have z2 : p_mk w 164 80 ≤ 6 := h6 z
              have z3 : p_mk w 164 80 ≠ 6 := fun y => c6 ⟨z, y⟩
              omega) H
            obtain ⟨h3, e3, H3, f3⟩ := M_go hG H1
            rw [e1, bs, e3, bs, if_neg (fun z => by
              have z2 : p_mk w 164 80 ≤ 6 := h6 z.1
              have z3 : p_mk w 164 80 ≠ 6 := fun y => c6 ⟨z.1, y⟩
              omega)]
            exact mr_ret H3 ((f0.trans f1).trans f3)
        · obtain ⟨h1, e1, x1, f1⟩ := M_flt (c := 3) (by omega) H
          rw [if_neg c, if_neg c, show (3 : Int32) = nI 3 from rfl, e1, bs, if_pos x1.d.ne, D_go x1.d, bs]
          exact mr_dead x1 (f0.trans f1)
      · show (if h1 (za 195) 10 ≠ 0 then sh_X10_doesTile_33 G (nI (wh q)) (nI 0) h1 else _) = some h1
        unfold sh_X10_doesTile_33 sh_X10_doesTile_46
        rw [if_pos D.ne, if_pos D.ne, D_go D, bs]
/-- rugs stay few -/
theorem RG_item {r : Nat × Wd × Nat} (hs : st_ w) (hq : q = 13) (h6 : RG w) (e : x_item V q s w sim = Sum.inr r) : RG r.2.1 := by
  subst hq
  have h4 := hs.rc
  have hc := hs.c
  have hl : ∀ {s2 a d len : Nat}, 1 ≤ d → (∀ i, i < len → a + i * d < nn w 0 * nn w 1) → x_line V 13 s2 w sim a d len = Sum.inr r → RG r.2.1 := fun {s2 a d len} hd hin z => by
    unfold x_line at z
    by_cases c : (13 : Fin 37) = 13 ∧ 6 < p_mk w 164 80 + x_cnt 13 w a d len
    · rw [if_pos c] at z; cases z
    · rw [if_neg c] at z
      cases z
      show p_mk (x_hd 13 a d len w) 164 80 ≤ 6
      have h80 : nn w 0 * nn w 1 ≤ 80 := hs.rc.2
      rw [mk_hd hd len (fun i hi => by have := hin i hi; omega)]
      have : ¬ 6 < p_mk w 164 80 + x_cnt 13 w a d len := fun y => c ⟨rfl, y⟩
      omega
  have hxb : ∀ {A : XR Nat} {k : Nat → XR (Nat × Wd × Nat)}, xb A k = Sum.inr r → ∃ v, A = Sum.inr v ∧ k v = Sum.inr r := fun {A k} z => by
    cases A with
    | inl _ => cases z
    | inr v => exact ⟨v, rfl, z⟩
  unfold x_item at e
  by_cases c1 : sgV V s = 24
  · rw [if_pos c1] at e
    obtain ⟨v, e2, e3⟩ := hxb e
    exact hl (by omega) (row_in hs (x_num_ok e2).2.2.1) e3
  · rw [if_neg c1] at e
    by_cases c2 : sgV V s = 25
    · rw [if_pos c2] at e
      obtain ⟨v, e2, e3⟩ := hxb e
      exact hl (by omega) (col_in hs (x_num_ok e2).2.2.1) e3
    · rw [if_neg c2] at e
      obtain ⟨v, e2, e3⟩ := hxb e
      have hv := (x_num_ok e2).2.2.1
      by_cases c3 : x_want 13 w v = true
      · rw [if_pos c3] at e3
        exact hl (by omega) (fun i hi => by have : p_rc w = nn w 0 * nn w 1 := rfl; omega) e3
      · rw [if_neg c3] at e3; cases e3
theorem D_it9 {a : Int32} {F : Nat} (D : Dd h) : sh_X10_readsItems_9 G a (F + 1) h = some h := by
  show sh_X10_readsItems_9_b G a (sh_X10_readsItems_9 G a F) h = some h
  unfold sh_X10_readsItems_9_b
  rw [D_is D, if_neg (fun q => q rfl), D_word D, bs, if_neg (fun q => q rfl), D_word D, bs, if_pos rfl]
theorem x_item_lt {r : Nat × Wd × Nat} (hs : s ≤ V.2.1) (e : x_item V q s w sim = Sum.inr r) : s + 1 ≤ r.1 := by
  have hx : ∀ {s2 : Nat} {a d len : Nat}, x_line V q s2 w sim a d len = Sum.inr r → r.1 = nxV V s2 := fun {s2 a d len} z => by
    unfold x_line at z
    split at z
    · cases z
    · cases z; rfl
  have hxb : ∀ {A : XR Nat} {k : Nat → XR (Nat × Wd × Nat)}, xb A k = Sum.inr r → ∃ v, A = Sum.inr v ∧ k v = Sum.inr r := fun {A k} z => by
    cases A with
    | inl _ => cases z
    | inr v => exact ⟨v, rfl, z⟩
  have h2 := (nxV_le (V := V) hs).1
  unfold x_item at e
  split at e
  · obtain ⟨v, e2, e3⟩ := hxb e
    have := hx e3
    have h1 := (nxV_b (x_num_ok e2).2.2.2.2).1
    omega
  · split at e
    · obtain ⟨v, e2, e3⟩ := hxb e
      have := hx e3
      have h1 := (nxV_b (x_num_ok e2).2.2.2.2).1
      omega
    · obtain ⟨v, e2, e3⟩ := hxb e
      split at e3
      · have := hx e3
        have h1 := (nxV_b (x_num_ok e2).2.2.2.2).1
        omega
      · cases e3
theorem mr_items (hG : 501 < G) (hq : q = 13 ∨ q = 14 ∨ q = 16) (hb : q = 13 → beg = false) : ∀ (f F s : Nat) (h : HI) (w : Wd) (sim : Nat), f ≤ F → V.2.1 < s + f → fq_ h0 h → st_ w → ti_ w → (q = 13 → RG w) → MB V h s w sim beg dep → mr_ V beg dep ((sh_X10_doesItem G (nI (wh q)) h).bind fun h4 => sh_X10_readsItems_9 G (nI (wh q)) F h4) h0 (x_items V q f s w sim) := fun f => by
  induction f with
  | zero =>
    intro F s h w sim _ hf _ _ _ _ H
    have := H.sn
    omega
  | succ f ih =>
    intro F s h w sim hF hf f0 hs hti h6 H
    have hsn := H.sn
    have g := mr_item (q := q) hG hq hb hs hti h6 f0 H
    have gi := XI_item (V := V) (P := fun _ w => st_ w ∧ ti_ w) (fun m w w1 a b c => ⟨a.1.cg (fun k hk => c k (by unfold sk at hk; omega)), b⟩) (fun _ _ a => a) (q := q) (sim := sim) hsn ⟨hs, hti⟩
    obtain ⟨F, rfl⟩ : ∃ F2, F = F2 + 1 := ⟨F - 1, by omega⟩
    rw [x_items_s]
    cases e : x_item V q s w sim with
    | inl cp =>
      obtain ⟨c, p⟩ := cp
      rw [e] at g
      obtain ⟨h1, e1, x1, f1⟩ := g
      rw [e1, bs, D_it9 x1.d]
      exact mr_dead x1 f1
    | inr r1 =>
      have hlt := x_item_lt hsn e
      have hRG := fun z => RG_item hs z (h6 z) e
      obtain ⟨s1, w1, sim1⟩ := r1
      rw [e] at g gi
      obtain ⟨h1, e1, H1, f1⟩ := g
      obtain ⟨⟨i1, i2⟩, i3, i4, -⟩ := gi
      rw [e1, bs]
      show mr_ V beg dep (sh_X10_readsItems_9_b G (nI (wh q)) (sh_X10_readsItems_9 G (nI (wh q)) F) h1) h0 (if sgV V s1 = 34 ∨ sgV V s1 = 24 ∨ sgV V s1 = 25 then x_items V q f s1 w1 sim1 else Sum.inr (s1, w1, sim1))
      unfold sh_X10_readsItems_9_b sh_X10_readsItems_35
      have hlt : s + 1 ≤ s1 := hlt
      rw [show (3 : Int32) = nI 3 from rfl, M_is (by omega) H1, ne_of, M_word (j := 42) (q := 24) (by decide) (by decide) rfl (by omega) H1, bs, ne_of, M_word (j := 43) (q := 25) (by decide) (by decide) rfl (by omega) H1, bs, eq_of]
      by_cases c : sgV V s1 = 34 ∨ sgV V s1 = 24 ∨ sgV V s1 = 25
      · rw [if_pos c]
        have ih := ih F s1 h1 w1 sim1 (by omega) (by omega) f1 i1 i2 hRG H1
        by_cases c1 : sgV V s1 = 34
        · rw [decide_eq_true (kd_34.mpr c1), if_pos rfl]; exact ih
        · rw [decide_eq_false (fun z => c1 (kd_34.mp z)), if_neg (by decide)]
          by_cases c2 : sgV V s1 = 24
          · rw [decide_eq_true c2, if_pos rfl]; exact ih
          · rw [decide_eq_false c2, if_neg (by decide), decide_eq_true (by rcases c with z | z | z <;> first | exact absurd z c1 | exact absurd z c2 | exact z), if_pos rfl]
            exact ih
      · rw [if_neg c, decide_eq_false (fun z => c (Or.inl (kd_34.mp z))), if_neg (by decide), decide_eq_false (fun z => c (Or.inr (Or.inl z))), if_neg (by decide), decide_eq_false (fun z => c (Or.inr (Or.inr z))), if_neg (by decide)]
        exact mr_ret H1 f1
theorem mr_its (hG : 501 < G) (hq : q = 13 ∨ q = 14 ∨ q = 16) (hb : q = 13 → beg = false) (h1s : 1 ≤ nxV V s) (hs : st_ w) (hti : ti_ w) (h6 : q = 13 → RG w) (H : MB V h s w sim beg dep) : mr_ V beg dep (sh_X10_readsItems G (nI (wh q)) h) h (x_items V q 500 (nxV V s) w sim) := by
  unfold sh_X10_readsItems
  obtain ⟨h2, e2, H2, f2⟩ := M_go hG H
  rw [e2, bs]
  have := H.1.2.2.1
  exact mr_items hG hq hb 500 G _ h2 w sim (by omega) (by omega) f2 hs hti h6 H2
end MI
