/-! the tokens are read -/
def Rs (X : XR (Nat × Wd × Nat)) (r c : Nat) : Prop := ∃ s1 w1 sim1, X = Sum.inr (s1, w1, sim1) ∧ nn w1 0 = r ∧ nn w1 1 = c
/-- a piece ends, and behind it Q -/
def Rq (X : XR (Nat × Wd × Nat)) (Q : Nat → Wd → Nat → Prop) : Prop := ∃ s1 w1 sim1, X = Sum.inr (s1, w1, sim1) ∧ Q s1 w1 sim1
/-- while settings are read -/
def Wp (r c j t p q : Nat) (w : Wd) : Prop := (nn w 0 = r ∧ nn w 1 = c) ∧ (∀ i, j ≤ i → i < 10 → w (26 + i) = 0) ∧ (∀ u, t ≤ u → u < 80 → w (164 + u) = 0) ∧ p_mk w 164 80 = p ∧ nn w 24 = q ∧ ∀ u, u < 80 → w (84 + u) = 0 ∧ w (244 + u) = 0
/-- the token behind is ';' -/
def H31 (T : Tk) : Prop := ∃ n T', T = (31, n) :: T'
section PAR
variable {V : TV} {s F r c j t p q sim : Nat} {l : List Nat} {T : Tk} {w : Wd}
theorem Rq.b {X : XR (Nat × Wd × Nat)} {Q Q2 : Nat → Wd → Nat → Prop} {f : Nat × Wd × Nat → XR (Nat × Wd × Nat)} (h : Rq X Q) (g : ∀ s w sim, Q s w sim → Rq (f (s, w, sim)) Q2) : Rq (xb X f) Q2 := by
  obtain ⟨s1, w1, sim1, e, q⟩ := h
  rw [e]
  exact g s1 w1 sim1 q
theorem Rq.i {s1 sim1 : Nat} {w1 : Wd} {Q : Nat → Wd → Nat → Prop} (h : Q s1 w1 sim1) : Rq (Sum.inr (s1, w1, sim1)) Q := ⟨s1, w1, sim1, rfl, h⟩
theorem mk_ne {k v : Nat} {y : Int32} {o : Nat} : ∀ n, (k < o ∨ o + n ≤ k) → p_mk (upd w k y) o n = p_mk w o n
  | 0, _ => rfl
  | n + 1, h => by
    rw [p_mk_s, p_mk_s, mk_ne n (v := v) (by omega), upd_ne (by omega)]
theorem mk_up {t : Nat} {y : Int32} {o : Nat} : ∀ n, p_mk (upd w (o + t) y) o n ≤ p_mk w o n + 1
  | 0 => Nat.zero_le _
  | n + 1 => by
    rw [p_mk_s, p_mk_s]
    by_cases e : n = t
    · subst e
      rw [mk_ne (v := 0) n (Or.inr (by omega))]
      split <;> split <;> omega
    · have ih := mk_up (t := t) (y := y) (o := o) n
      rw [upd_ne (by omega)]
      split <;> omega
theorem Wp.u {k : Nat} {v : Int32} (h : Wp r c j t p q w) (hk : (2 ≤ k ∧ k < 24) ∨ (36 ≤ k ∧ k < 84)) : Wp r c j t p q (upd w k v) := by
  obtain ⟨⟨a, b⟩, d, e, f, g, i⟩ := h
  exact ⟨⟨(nn_cg (upd_ne (by omega))).trans a, (nn_cg (upd_ne (by omega))).trans b⟩, fun x x1 x2 => (upd_ne (by omega)).trans (d x x1 x2), fun x x1 x2 => (upd_ne (by omega)).trans (e x x1 x2), (mk_ne (v := 0) 80 (by omega)).trans f, (nn_cg (upd_ne (by omega))).trans g, fun x x1 => ⟨(upd_ne (by omega)).trans (i x x1).1, (upd_ne (by omega)).trans (i x x1).2⟩⟩
theorem Wp.m0 (h : Wp r c j t p q w) : Wp r c j t p q (p_m0 w) := by
  obtain ⟨⟨a, b⟩, d, e, f, g, i⟩ := h
  have n : ∀ k, k ≠ 17 → ¬ (54 ≤ k ∧ k < 84) → p_m0 w k = w k := fun k h1 h2 => by
    unfold p_m0
    rw [if_neg h1, if_neg h2]
  have m : ∀ n, p_mk (p_m0 w) 164 n = p_mk w 164 n := fun m => by
    induction m with
    | zero => rfl
    | succ m ih => rw [p_mk_s, p_mk_s, ih, n _ (by omega) (by omega)]
  exact ⟨⟨(nn_cg (n 0 (by omega) (by omega))).trans a, (nn_cg (n 1 (by omega) (by omega))).trans b⟩, fun x x1 x2 => (n _ (by omega) (by omega)).trans (d x x1 x2), fun x x1 x2 => (n _ (by omega) (by omega)).trans (e x x1 x2), (m 80).trans f, (nn_cg (n 24 (by omega) (by omega))).trans g, fun x x1 => ⟨(n _ (by omega) (by omega)).trans (i x x1).1, (n _ (by omega) (by omega)).trans (i x x1).2⟩⟩
theorem TK.num {m lo hi : Nat} (h : TK V ((34, m) :: T) l s) (h1 : lo ≤ m) (h2 : m ≤ hi) : x_num V s lo hi = Sum.inr m := by
  unfold x_num
  rw [show t_sg V.1 V.2.1 s = 34 from h.1, if_pos rfl, h.2.1 rfl, if_pos ⟨h1, h2⟩]
theorem TK.n34 (h : TK V T l s) (h2 : H31 T) : sgV V s = 31 := by
  obtain ⟨n, T', rfl⟩ := h2
  exact h.1
theorem rs_set {q : Fin 37} (hF : 0 < F) (t : TK V ((31, 0) :: (q, 0) :: T) l s) (h1 : 1 ≤ q.val) (h13 : q.val ≤ 13) {Q : Nat → Wd → Nat → Prop} (h : ∀ s, sgV V s = q → TK V T l (nxV V s) → Rq (x_set V s w sim) Q) (g : ∀ s w sim, Q s w sim → Rs (r_text V (F - 1) s w sim false) r c) : Rs (r_text V F s w sim false) r c := by
  obtain ⟨F, rfl⟩ : ∃ f, F = f + 1 := ⟨F - 1, by omega⟩
  obtain ⟨t1, -, t2, -, t3⟩ := t
  obtain ⟨s2, w2, sim2, e, q2⟩ := h _ t2 t3
  rw [r_text_s, t1, if_pos rfl, if_pos ⟨rfl, by rw [t2]; exact h1, by rw [t2]; exact h13⟩, e]
  exact g s2 w2 sim2 q2
/-- a setting of one number -/
theorem rs_n {q : Fin 37} {k lo hi m : Nat} (hF : 0 < F) (t : TK V ((31, 0) :: (q, 0) :: (34, m) :: T) l s) (h1 : 1 ≤ q.val) (h13 : q.val ≤ 13) (e : ∀ s, sgV V s = q → x_set V s w sim = x_nset V k lo hi (nxV V s) w sim) (a : lo ≤ m) (b : m ≤ hi) (g : ∀ s, TK V T l s → Rs (r_text V (F - 1) s (upd w k (nI m)) sim false) r c) : Rs (r_text V F s w sim false) r c := rs_set hF t h1 h13 (Q := fun s2 w2 sim2 => TK V T l s2 ∧ w2 = upd w k (nI m) ∧ sim2 = sim) (fun s h2 t2 => by
    rw [e s h2]
    unfold x_nset
    rw [t2.num a b]
    exact Rq.i ⟨t2.2.2, rfl, rfl⟩) (fun s w2 sim2 h => by
    obtain ⟨h1, rfl, rfl⟩ := h
    exact g s h1)
theorem xs1 (h : sgV V s = 1) : x_set V s w sim = x_nset V 2 1 20 (nxV V s) w sim := by unfold x_set; rw [h]; rfl
theorem xs2 (h : sgV V s = 2) : x_set V s w sim = x_nset V 3 1 5 (nxV V s) w sim := by unfold x_set; rw [h]; rfl
theorem xs3 (h : sgV V s = 3) : x_set V s w sim = x_nset V 4 1 99 (nxV V s) w sim := by unfold x_set; rw [h]; rfl
theorem xs4 (h : sgV V s = 4) : x_set V s w sim = x_nset V 5 0 9 (nxV V s) w sim := by unfold x_set; rw [h]; rfl
theorem xs5 (h : sgV V s = 5) : x_set V s w sim = x_nset V 20 0 99 (nxV V s) w sim := by unfold x_set; rw [h]; rfl
theorem xs6 (h : sgV V s = 6) : x_set V s w sim = x_nset V 21 0 20 (nxV V s) w sim := by unfold x_set; rw [h]; rfl
theorem xs7 (h : sgV V s = 7) : x_set V s w sim = x_nset V 6 0 999 (nxV V s) w sim := by unfold x_set; rw [h]; rfl
theorem xs8 (h : sgV V s = 8) : x_set V s w sim = x_walk V (nxV V s) w sim := by unfold x_set; rw [h]; rfl
theorem xs9 (h : sgV V s = 9) : x_set V s w sim = x_cat V (nxV V s) w sim := by unfold x_set; rw [h]; rfl
theorem xs10 (h : sgV V s = 10) : x_set V s w sim = x_cur V 1 500 (nxV V s) w sim := by unfold x_set; rw [h]; rfl
theorem xs11 (h : sgV V s = 11) : x_set V s w sim = x_drau V (nxV V s) w sim := by unfold x_set; rw [h]; rfl
theorem xs12 (h : sgV V s = 12) : x_set V s w sim = if nn w 24 = 4 then Sum.inl (4, s) else x_cloud V (nxV V s) w sim := by unfold x_set; rw [h]; rfl
theorem xs13 (h : sgV V s = 13) : x_set V s w sim = x_items V 13 500 (nxV V s) w sim := by unfold x_set; rw [h]; rfl
/-- the walker's column -/
theorem rs_w {m : Nat} {rg : Bool} (hF : 0 < F) (W : Wp r c j t p q w) (h : TK V ((31, 0) :: (8, 0) :: (34, m) :: ((if rg = true then 30 else 29), 0) :: T) l s) (b : m < c) (g : ∀ s w, TK V T l s → Wp r c j t p q w → Rs (r_text V (F - 1) s w sim false) r c) : Rs (r_text V F s w sim false) r c := rs_set hF h (by decide) (by decide) (Q := fun s2 w2 sim2 => TK V T l s2 ∧ Wp r c j t p q w2 ∧ sim2 = sim) (fun s h2 t2 => by
    rw [xs8 h2]
    unfold x_walk
    rw [t2.num (Nat.zero_le _) (by rw [W.1.2]; omega)]
    have t3 : sgV V (nxV V (nxV V s)) = if rg = true then 30 else 29 := t2.2.2.1
    show Rq (if sgV V (nxV V (nxV V s)) = 29 then _ else if sgV V (nxV V (nxV V s)) = 30 then _ else _) _
    rw [t3]
    cases rg
    · rw [if_pos (by decide)]
      exact Rq.i ⟨t2.2.2.2.2, (W.u (by omega)).u (by omega), rfl⟩
    · rw [if_neg (by decide), if_pos (by decide)]
      exact Rq.i ⟨t2.2.2.2.2, (W.u (by omega)).u (by omega), rfl⟩) (fun s w2 sim2 h => by
    obtain ⟨h1, h2, rfl⟩ := h
    exact g s w2 h1 h2)
theorem mv_q (m : Nat) (h : m < 5) : x_mv (mvq m) = some m := by
  have : m = 0 ∨ m = 1 ∨ m = 2 ∨ m = 3 ∨ m = 4 := by omega
  rcases this with rfl | rfl | rfl | rfl | rfl <;> rfl
/-- the cat's route -/
theorem rq_route {rt : Nat → Nat} (hT : H31 T) : ∀ n f k jj s (w : Wd), n < f → k + n ≤ 30 → (∀ i, jj ≤ i → i < jj + n → rt i < 5) → Wp r c j t p q w → TK V (kR rt n jj T) l s → Rq (x_route V f k s w sim) (fun s2 w2 sim2 => TK V T l s2 ∧ Wp r c j t p q w2 ∧ sim2 = sim)
  | 0, f, k, jj, s, w, hf, hk, hr, W, h => by
    obtain ⟨f, rfl⟩ : ∃ g, f = g + 1 := ⟨f - 1, by omega⟩
    have h : TK V T l s := h
    rw [x_route_s, h.n34 hT]
    exact Rq.i ⟨h, W, rfl⟩
  | n + 1, f, k, jj, s, w, hf, hk, hr, W, h => by
    obtain ⟨f, rfl⟩ : ∃ g, f = g + 1 := ⟨f - 1, by omega⟩
    have h : TK V ((mvq (rt jj), 0) :: kR rt n (jj + 1) T) l s := h
    rw [x_route_s, h.1, mv_q _ (hr jj (Nat.le_refl _) (by omega))]
    show Rq (if k = 30 then _ else x_route V f (k + 1) (nxV V s) (p_push w k (rt jj)) sim) _
    rw [if_neg (by omega)]
    exact rq_route hT n f (k + 1) (jj + 1) _ _ (by omega) (by omega) (fun i i1 i2 => hr i (by omega) (by omega)) ((W.u (by omega)).u (by omega)) h.2.2
theorem rs_c {rt : Nat → Nat} {m R : Nat} (hF : 0 < F) (hT : H31 T) (W : Wp r c j t p q w) (hR : R < 8) (hr : ∀ i, i < R → rt i < 5) (h : TK V ((31, 0) :: (9, 0) :: (34, m) :: kR rt R 0 T) l s) (b : m < r * c) (g : ∀ s w, TK V T l s → Wp r c j t p q w → Rs (r_text V (F - 1) s w sim false) r c) : Rs (r_text V F s w sim false) r c := rs_set hF h (by decide) (by decide) (Q := fun s2 w2 sim2 => TK V T l s2 ∧ Wp r c j t p q w2 ∧ sim2 = sim) (fun s h2 t2 => by
    rw [xs9 h2]
    unfold x_cat
    rw [t2.num (Nat.zero_le _) (by unfold p_rc; rw [W.1.1, W.1.2]; omega)]
    exact rq_route hT R 31 0 0 _ _ (by omega) (by omega) (fun i _ i2 => hr i (by omega)) (W.u (by omega)).m0 t2.2.2) (fun s w2 sim2 h => by
    obtain ⟨h1, h2, rfl⟩ := h
    exact g s w2 h1 h2)
/-- a curtain is drawn -/
theorem rs_cu (hF : 0 < F) (hT : H31 T) (hc : c ≤ 10) (W : Wp r c j t p q w) (h : TK V ((31, 0) :: (10, 0) :: (34, j) :: T) l s) (b : j < c) (g : ∀ s w, TK V T l s → Wp r c (j + 1) t p q w → Rs (r_text V (F - 1) s w sim false) r c) : Rs (r_text V F s w sim false) r c := rs_set hF h (by decide) (by decide) (Q := fun s2 w2 sim2 => TK V T l s2 ∧ Wp r c (j + 1) t p q w2 ∧ sim2 = sim) (fun s h2 t2 => by
    rw [xs10 h2, x_cur_s, t2.num (Nat.zero_le _) (by rw [W.1.2]; omega)]
    have h31 : sgV V (nxV V (nxV V s)) = 31 := (show TK V T l (nxV V (nxV V s)) from t2.2.2).n34 hT
    show Rq (if w (26 + j) = nI 1 then _ else if sgV V (nxV V (nxV V s)) = 34 then _ else Sum.inr (nxV V (nxV V s), upd w (26 + j) (nI 1), sim)) _
    rw [W.2.1 j (Nat.le_refl _) (by omega), if_neg (by decide), h31, if_neg (by decide)]
    obtain ⟨⟨a1, b1⟩, d, e, f, g1, i⟩ := W
    exact Rq.i ⟨t2.2.2, ⟨⟨(nn_cg (upd_ne (by omega))).trans a1, (nn_cg (upd_ne (by omega))).trans b1⟩, fun x x1 x2 => (upd_ne (by omega)).trans (d x (by omega) x2), fun x x1 x2 => (upd_ne (by omega)).trans (e x x1 x2), (mk_ne (v := 0) 80 (by omega)).trans f, (nn_cg (upd_ne (by omega))).trans g1, fun x x1 => ⟨(upd_ne (by omega)).trans (i x x1).1, (upd_ne (by omega)).trans (i x x1).2⟩⟩, rfl⟩) (fun s w2 sim2 h => by
    obtain ⟨h1, h2, rfl⟩ := h
    exact g s w2 h1 h2)
theorem Wp.sj (W : Wp r c j t p q w) : Wp r c (j + 1) t p q w := ⟨W.1, fun i h1 h2 => W.2.1 i (by omega) h2, W.2.2⟩
/-- a draught -/
theorem rs_dr {m y : Nat} (hF : 0 < F) (hc : c ≤ 10) (W : Wp r c j t p q w) (h : TK V ((31, 0) :: (11, 0) :: (34, m) :: (34, y) :: T) l s) (b : m < c) (hy : 2 ≤ y ∧ y ≤ 60) (g : ∀ s w, TK V T l s → Wp r c j t p q w → Rs (r_text V (F - 1) s w sim false) r c) : Rs (r_text V F s w sim false) r c := rs_set hF h (by decide) (by decide) (Q := fun s2 w2 sim2 => TK V T l s2 ∧ Wp r c j t p q w2 ∧ sim2 = sim) (fun s h2 t2 => by
    rw [xs11 h2]
    unfold x_drau
    rw [t2.num (Nat.zero_le _) (by rw [W.1.2]; omega)]
    show Rq (xb (x_num V (nxV V (nxV V s)) 2 60) _) _
    rw [(show TK V ((34, y) :: T) l (nxV V (nxV V s)) from t2.2.2).num hy.1 hy.2]
    exact Rq.i ⟨t2.2.2.2.2, W.u (by omega), rfl⟩) (fun s w2 sim2 h => by
    obtain ⟨h1, h2, rfl⟩ := h
    exact g s w2 h1 h2)
/-- a cloud -/
theorem rs_cl {m : Nat} (hF : 0 < F) (W : Wp r c j t p 0 w) (h : TK V ((31, 0) :: (12, 0) :: (34, m) :: (34, m + 1) :: T) l s) (b : m ≤ 3) (g : ∀ s w, TK V T l s → Wp r c j t p 1 w → Rs (r_text V (F - 1) s w sim false) r c) : Rs (r_text V F s w sim false) r c := rs_set hF h (by decide) (by decide) (Q := fun s2 w2 sim2 => TK V T l s2 ∧ Wp r c j t p 1 w2 ∧ sim2 = sim) (fun s h2 t2 => by
    rw [xs12 h2, W.2.2.2.2.1, if_neg (by decide)]
    unfold x_cloud
    rw [t2.num (Nat.zero_le _) (by omega)]
    show Rq (xb (x_num V (nxV V (nxV V s)) m 159) _) _
    rw [(show TK V ((34, m + 1) :: T) l (nxV V (nxV V s)) from t2.2.2).num (by omega) (by omega)]
    refine Rq.i ⟨t2.2.2.2.2, ?_, rfl⟩
    unfold p_cld
    rw [W.2.2.2.2.1]
    have W2 := (W.u (k := 46 + 2 * 0) (v := nI m) (by omega)).u (k := 47 + 2 * 0) (v := nI (m + 1)) (by omega)
    obtain ⟨⟨a1, b1⟩, d, e, f, g1, i⟩ := W2
    exact ⟨⟨(nn_cg (upd_ne (by omega))).trans a1, (nn_cg (upd_ne (by omega))).trans b1⟩, fun x x1 x2 => (upd_ne (by omega)).trans (d x x1 x2), fun x x1 x2 => (upd_ne (by omega)).trans (e x x1 x2), (mk_ne (v := 0) 80 (by omega)).trans f, nn_of upd_eq (by omega), fun x x1 => ⟨(upd_ne (by omega)).trans (i x x1).1, (upd_ne (by omega)).trans (i x x1).2⟩⟩) (fun s w2 sim2 h => by
    obtain ⟨h1, h2, rfl⟩ := h
    exact g s w2 h1 h2)
/-- a rug -/
theorem rs_ru (hF : 0 < F) (hT : H31 T) (hrc : r * c ≤ 15) (hp : p < 6) (W : Wp r c j t p q w) (h : TK V ((31, 0) :: (13, 0) :: (34, t) :: T) l s) (b : t < r * c) (g : ∀ s w p', p' ≤ p + 1 → TK V T l s → Wp r c j (t + 1) p' q w → Rs (r_text V (F - 1) s w sim false) r c) : Rs (r_text V F s w sim false) r c := rs_set hF h (by decide) (by decide) (Q := fun s2 w2 sim2 => TK V T l s2 ∧ (∃ p', p' ≤ p + 1 ∧ Wp r c j (t + 1) p' q w2) ∧ sim2 = sim) (fun s h2 t2 => by
    rw [xs13 h2, x_items_s]
    have h31 : sgV V (nxV V (nxV V s)) = 31 := (show TK V T l (nxV V (nxV V s)) from t2.2.2).n34 hT
    have hw : x_want 13 w t = true := by
      unfold x_want
      rw [if_pos rfl]
      exact decide_eq_true (W.2.2.1 t (Nat.le_refl _) (by omega))
    have hi : x_item V 13 (nxV V s) w sim = Sum.inr (nxV V (nxV V s), upd w (164 + t) 1, sim) := by
      unfold x_item
      rw [t2.1, if_neg (by decide), if_neg (by decide), t2.num (Nat.zero_le _) (by unfold p_rc; rw [W.1.1, W.1.2]; omega)]
      show (if x_want 13 w t = true then x_line V 13 (nxV V s) w sim t 1 1 else _) = _
      rw [if_pos hw]
      unfold x_line
      have hcn : x_cnt 13 w t 1 1 = 1 := by
        rw [x_cnt_s]
        show 0 + (if x_want 13 w (t + 0 * 1) = true then 1 else 0) = 1
        rw [show t + 0 * 1 = t by omega, if_pos hw]
      rw [hcn, W.2.2.2.1, if_neg (by omega)]
      have hh : x_hd 13 t 1 1 w = upd w (164 + t) 1 := by
        rw [x_hd_s]
        show x_h1 13 w (t + 0 * 1) = _
        unfold x_h1
        rw [show t + 0 * 1 = t by omega, if_pos hw, if_pos rfl]
      rw [hh]
    rw [hi]
    show Rq (if sgV V (nxV V (nxV V s)) = 34 ∨ sgV V (nxV V (nxV V s)) = 24 ∨ sgV V (nxV V (nxV V s)) = 25 then _ else Sum.inr (nxV V (nxV V s), upd w (164 + t) 1, sim)) _
    rw [h31, if_neg (by decide)]
    obtain ⟨⟨a1, b1⟩, d, e, f, g1, i⟩ := W
    have hm := mk_up (w := w) (t := t) (y := 1) (o := 164) 80
    exact Rq.i ⟨t2.2.2, ⟨_, by omega, ⟨⟨(nn_cg (upd_ne (by omega))).trans a1, (nn_cg (upd_ne (by omega))).trans b1⟩, fun x x1 x2 => (upd_ne (by omega)).trans (d x x1 x2), fun x x1 x2 => (upd_ne (by omega)).trans (e x (by omega) x2), rfl, (nn_cg (upd_ne (by omega))).trans g1, fun x x1 => ⟨(upd_ne (by omega)).trans (i x x1).1, (upd_ne (by omega)).trans (i x x1).2⟩⟩⟩, rfl⟩) (fun s w2 sim2 h => by
    obtain ⟨h1, ⟨p', h3, h2⟩, rfl⟩ := h
    exact g s w2 p' h3 h1 h2)
end PAR
