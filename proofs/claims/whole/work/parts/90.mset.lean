/-! the model: a setting -/
def RS (r : XR (Nat × Wd × Nat)) : Prop := ∀ s1 w1 sim1, r = Sum.inr (s1, w1, sim1) → RG w1
theorem RG.cg {w w1 : Wd} (h : RG w) (e : ∀ k, k < 80 → w1 (164 + k) = w (164 + k)) : RG w1 := by
  unfold RG at h ⊢
  rw [p_mk_cg 80 e]
  exact h
theorem RG.u {w : Wd} {k : Nat} {v : Int32} (h : RG w) (hk : k < 164) : RG (upd w k v) := h.cg (fun j _ => upd_ne (by omega))
section RSS
variable {V : TV} {sim : Nat} {w : Wd}
theorem RS.l {e : Nat × Nat} : RS (Sum.inl e) := fun _ _ _ h => by cases h
theorem RS.r {s : Nat} (h : RG w) : RS (Sum.inr (s, w, sim)) := fun _ _ _ q => by cases q; exact h
theorem RS.b {α : Type} {r : XR α} {k : α → XR (Nat × Wd × Nat)} (h : ∀ v, r = Sum.inr v → RS (k v)) : RS (xb r k) := by
  cases r with
  | inl e => exact RS.l
  | inr v => exact h v rfl
theorem RS.i {c : Prop} [Decidable c] {a b : XR (Nat × Wd × Nat)} (h1 : c → RS a) (h2 : ¬ c → RS b) : RS (if c then a else b) := by
  by_cases q : c
  · rw [if_pos q]; exact h1 q
  · rw [if_neg q]; exact h2 q
theorem RS_route : ∀ (f k s : Nat) (w : Wd), k + f = 31 → RG w → RS (x_route V f k s w sim) := fun f => by
  induction f with
  | zero => intro _ _ _ _ h; exact RS.r h
  | succ f ih =>
    intro k s w hk h
    rw [x_route_s]
    cases x_mv (sgV V s) with
    | none => exact RS.r h
    | some m => exact RS.i (fun _ => RS.l) (fun c => ih _ _ _ (by omega) ((h.u (by omega)).u (by omega)))
theorem RS_cur {cl : Nat} : ∀ (f s : Nat) (w : Wd), nn w 1 ≤ 10 → RG w → RS (x_cur V cl f s w sim) := fun f => by
  induction f with
  | zero => intro _ _ _ _; exact RS.l
  | succ f ih =>
    intro s w h10 h
    rw [x_cur_s]
    refine RS.b fun v hv => RS.i (fun _ => RS.l) (fun _ => ?_)
    have hv2 := (x_num_ok hv).2.2.1
    have e1 : nn (upd w (26 + v) (nI cl)) 1 = nn w 1 := nn_cg (upd_ne (by omega))
    exact RS.i (fun _ => ih _ _ (by rw [e1]; exact h10) (h.u (by omega))) (fun _ => RS.r (h.u (by omega)))
theorem RS_items : ∀ (f s : Nat) (w : Wd) (sim : Nat), s ≤ V.2.1 → st_ w → ti_ w → RG w → RS (x_items V 13 f s w sim) := fun f => by
  induction f with
  | zero => intro _ _ _ _ _ _ _; exact RS.l
  | succ f ih =>
    intro s w sim hs hst hti h
    rw [x_items_s]
    have gi := XI_item (V := V) (P := fun _ w => st_ w ∧ ti_ w) (fun m w w1 a b c => ⟨a.1.cg (fun k hk => c k (by unfold sk at hk; omega)), b⟩) (fun _ _ a => a) (q := 13) (sim := sim) hs ⟨hst, hti⟩
    cases e : x_item V 13 s w sim with
    | inl cp => exact RS.l
    | inr r =>
      have hRG := RG_item hst rfl h e
      obtain ⟨s1, w1, sim1⟩ := r
      rw [e] at gi
      obtain ⟨⟨i1, i2⟩, i3, i4, -⟩ := gi
      exact RS.i (fun _ => ih _ _ _ i4 i1 i2 hRG) (fun _ => RS.r hRG)
theorem RS_set {s : Nat} (hs : s < V.2.1) (hX : XS w) (h : RG w) : RS (x_set V s w sim) := by
  have hc := hX.1.c
  have hcl := hX.1.2.2.2.2.2.2.2.2.1.2.2
  have hn := nxV_b hs
  have n : ∀ {k lo hi s}, k < 164 → RS (x_nset V k lo hi s w sim) := fun hk => RS.b fun v _ => RS.r (h.u hk)
  unfold x_set
  refine RS.i (fun _ => n (by omega)) (fun _ => RS.i (fun _ => n (by omega)) (fun _ => RS.i (fun _ => n (by omega)) (fun _ => RS.i (fun _ => n (by omega)) (fun _ => RS.i (fun _ => n (by omega)) (fun _ => RS.i (fun _ => n (by omega)) (fun _ => RS.i (fun _ => n (by omega)) (fun _ => ?_)))))))
  refine RS.i (fun _ => RS.b fun c _ => RS.i (fun _ => RS.r ((h.u (by omega)).u (by omega))) (fun _ => RS.i (fun _ => RS.r ((h.u (by omega)).u (by omega))) (fun _ => RS.l))) (fun _ => ?_)
  refine RS.i (fun _ => RS.b fun t _ => RS_route _ _ _ _ rfl ((h.u (k := 16) (by omega)).cg (fun j _ => p_m0_e (by omega)))) (fun _ => ?_)
  refine RS.i (fun _ => RS_cur _ _ _ hc.2.2 h) (fun _ => ?_)
  refine RS.i (fun _ => RS.b fun c hcv => RS.b fun v _ => RS.r (h.u (by have := (x_num_ok hcv).2.2.1; omega))) (fun _ => ?_)
  refine RS.i (fun _ => RS.i (fun _ => RS.l) (fun _ => RS.b fun a _ => RS.b fun z _ => RS.r ?_)) (fun _ => RS_items _ _ _ _ hn.2 hX.1 hX.2.1 h)
  exact ((h.u (by omega)).u (by omega)).u (by omega)
end RSS
section MS
variable {V : TV} {h h0 : HI} {s sim dep G : Nat} {w : Wd} {beg : Bool}
theorem W_0 {j : Nat} (q : Fin 37) (a : j < 68) (b : q.val ≤ 30) (e : am_str.getD j [] = am_str.getD q.val []) (hG : 501 < G) (n : sgV V s ≠ q) (H : MB V h s w sim beg dep) : sh_X10_isWord G j h = some 0 := by
  rw [M_word (q := q) a b e (by omega) H, decide_eq_false n]
  rfl
theorem W_1 {j : Nat} (q : Fin 37) (a : j < 68) (b : q.val ≤ 30) (e : am_str.getD j [] = am_str.getD q.val []) (hG : 501 < G) (n : sgV V s = q) (H : MB V h s w sim beg dep) : sh_X10_isWord G j h = some 1 := by
  rw [M_word (q := q) a b e (by omega) H, decide_eq_true n]
  rfl
theorem i10 : ((1 : Int32) = 0) = False := eq_false (by decide)
theorem M_iset (hG : 501 < G) (H : MB V h s w sim beg dep) : sh_X10_isSetting G h = some (b2 (decide (1 ≤ (sgV V s).val ∧ (sgV V s).val ≤ 13))) := by
  unfold sh_X10_isSetting sh_X10_isNumberSetting
  rw [M_word (j := 44) (q := 1) (by decide) (by decide) rfl (by omega) H, M_word (j := 45) (q := 2) (by decide) (by decide) rfl (by omega) H, M_word (j := 46) (q := 3) (by decide) (by decide) rfl (by omega) H, M_word (j := 47) (q := 4) (by decide) (by decide) rfl (by omega) H, M_word (j := 48) (q := 5) (by decide) (by decide) rfl (by omega) H, M_word (j := 49) (q := 6) (by decide) (by decide) rfl (by omega) H, M_word (j := 50) (q := 7) (by decide) (by decide) rfl (by omega) H, M_word (j := 51) (q := 8) (by decide) (by decide) rfl (by omega) H, M_word (j := 52) (q := 9) (by decide) (by decide) rfl (by omega) H, M_word (j := 53) (q := 10) (by decide) (by decide) rfl (by omega) H, M_word (j := 54) (q := 11) (by decide) (by decide) rfl (by omega) H, M_word (j := 55) (q := 12) (by decide) (by decide) rfl (by omega) H, M_word (j := 56) (q := 13) (by decide) (by decide) rfl (by omega) H]
  generalize sgV V s = z
  revert z
  decide
theorem mr_set (hG : 501 < G) (hs : s < V.2.1) (hX : XS w) (h6 : RG w) (c : 1 ≤ (sgV V s).val ∧ (sgV V s).val ≤ 13) (H : MB V h s w sim false dep) : mr_ V false dep (sh_X10_readsSetting G h) h (x_set V s w sim) := by
  have hn := nxV_b hs
  have hz : ∀ z : Fin 37, 1 ≤ z.val ∧ z.val ≤ 13 → z = 1 ∨ z = 2 ∨ z = 3 ∨ z = 4 ∨ z = 5 ∨ z = 6 ∨ z = 7 ∨ z = 8 ∨ z = 9 ∨ z = 10 ∨ z = 11 ∨ z = 12 ∨ z = 13 := by decide
  unfold sh_X10_readsSetting sh_X10_isNumberSetting sh_X10_readsNumberSetting x_set
  rcases hz _ c with z | z | z | z | z | z | z | z | z | z | z | z | z
  · have e44 := W_1 (j := 44) 1 (by decide) (by decide) rfl hG z H
    simp only [bs, ne_eq, eq_self, not_true_eq_false, not_false_eq_true, if_true, if_false, i10, e44]
    rw [z, if_pos (show (1 : Fin 37) = 1 from rfl)]
    exact mr_bs (mr_bs (mr_nset (k := 2) (lo := 1) (hi := 20) hG (by omega) (by omega) (by omega) H))
  · have e44 := W_0 (j := 44) 1 (by decide) (by decide) rfl hG (by rw [z]; decide) H
    have e45 := W_1 (j := 45) 2 (by decide) (by decide) rfl hG z H
    simp only [bs, ne_eq, eq_self, not_true_eq_false, not_false_eq_true, if_true, if_false, i10, e44, e45]
    rw [z, if_neg (show ¬ (2 : Fin 37) = 1 by decide), if_pos (show (2 : Fin 37) = 2 from rfl)]
    exact mr_bs (mr_bs (mr_nset (k := 3) (lo := 1) (hi := 5) hG (by omega) (by omega) (by omega) H))
  · have e44 := W_0 (j := 44) 1 (by decide) (by decide) rfl hG (by rw [z]; decide) H
    have e45 := W_0 (j := 45) 2 (by decide) (by decide) rfl hG (by rw [z]; decide) H
    have e46 := W_1 (j := 46) 3 (by decide) (by decide) rfl hG z H
    simp only [bs, ne_eq, eq_self, not_true_eq_false, not_false_eq_true, if_true, if_false, i10, e44, e45, e46]
    rw [z, if_neg (show ¬ (3 : Fin 37) = 1 by decide), if_neg (show ¬ (3 : Fin 37) = 2 by decide), if_pos (show (3 : Fin 37) = 3 from rfl)]
    exact mr_bs (mr_bs (mr_nset (k := 4) (lo := 1) (hi := 99) hG (by omega) (by omega) (by omega) H))
  · have e44 := W_0 (j := 44) 1 (by decide) (by decide) rfl hG (by rw [z]; decide) H
    have e45 := W_0 (j := 45) 2 (by decide) (by decide) rfl hG (by rw [z]; decide) H
    have e46 := W_0 (j := 46) 3 (by decide) (by decide) rfl hG (by rw [z]; decide) H
    have e47 := W_1 (j := 47) 4 (by decide) (by decide) rfl hG z H
    simp only [bs, ne_eq, eq_self, not_true_eq_false, not_false_eq_true, if_true, if_false, i10, e44, e45, e46, e47]
    rw [z, if_neg (show ¬ (4 : Fin 37) = 1 by decide), if_neg (show ¬ (4 : Fin 37) = 2 by decide), if_neg (show ¬ (4 : Fin 37) = 3 by decide), if_pos (show (4 : Fin 37) = 4 from rfl)]
    exact mr_bs (mr_bs (mr_nset (k := 5) (lo := 0) (hi := 9) hG (by omega) (by omega) (by omega) H))
  · have e44 := W_0 (j := 44) 1 (by decide) (by decide) rfl hG (by rw [z]; decide) H
    have e45 := W_0 (j := 45) 2 (by decide) (by decide) rfl hG (by rw [z]; decide) H
    have e46 := W_0 (j := 46) 3 (by decide) (by decide) rfl hG (by rw [z]; decide) H
    have e47 := W_0 (j := 47) 4 (by decide) (by decide) rfl hG (by rw [z]; decide) H
    have e48 := W_1 (j := 48) 5 (by decide) (by decide) rfl hG z H
    simp only [bs, ne_eq, eq_self, not_true_eq_false, not_false_eq_true, if_true, if_false, i10, e44, e45, e46, e47, e48]
    rw [z, if_neg (show ¬ (5 : Fin 37) = 1 by decide), if_neg (show ¬ (5 : Fin 37) = 2 by decide), if_neg (show ¬ (5 : Fin 37) = 3 by decide), if_neg (show ¬ (5 : Fin 37) = 4 by decide), if_pos (show (5 : Fin 37) = 5 from rfl)]
    exact mr_bs (mr_bs (mr_nset (k := 20) (lo := 0) (hi := 99) hG (by omega) (by omega) (by omega) H))
  · have e44 := W_0 (j := 44) 1 (by decide) (by decide) rfl hG (by rw [z]; decide) H
    have e45 := W_0 (j := 45) 2 (by decide) (by decide) rfl hG (by rw [z]; decide) H
    have e46 := W_0 (j := 46) 3 (by decide) (by decide) rfl hG (by rw [z]; decide) H
    have e47 := W_0 (j := 47) 4 (by decide) (by decide) rfl hG (by rw [z]; decide) H
    have e48 := W_0 (j := 48) 5 (by decide) (by decide) rfl hG (by rw [z]; decide) H
    have e49 := W_1 (j := 49) 6 (by decide) (by decide) rfl hG z H
    simp only [bs, ne_eq, eq_self, not_true_eq_false, not_false_eq_true, if_true, if_false, i10, e44, e45, e46, e47, e48, e49]
    rw [z, if_neg (show ¬ (6 : Fin 37) = 1 by decide), if_neg (show ¬ (6 : Fin 37) = 2 by decide), if_neg (show ¬ (6 : Fin 37) = 3 by decide), if_neg (show ¬ (6 : Fin 37) = 4 by decide), if_neg (show ¬ (6 : Fin 37) = 5 by decide), if_pos (show (6 : Fin 37) = 6 from rfl)]
    exact mr_bs (mr_bs (mr_nset (k := 21) (lo := 0) (hi := 20) hG (by omega) (by omega) (by omega) H))
  · have e44 := W_0 (j := 44) 1 (by decide) (by decide) rfl hG (by rw [z]; decide) H
    have e45 := W_0 (j := 45) 2 (by decide) (by decide) rfl hG (by rw [z]; decide) H
    have e46 := W_0 (j := 46) 3 (by decide) (by decide) rfl hG (by rw [z]; decide) H
    have e47 := W_0 (j := 47) 4 (by decide) (by decide) rfl hG (by rw [z]; decide) H
    have e48 := W_0 (j := 48) 5 (by decide) (by decide) rfl hG (by rw [z]; decide) H
    have e49 := W_0 (j := 49) 6 (by decide) (by decide) rfl hG (by rw [z]; decide) H
    have e50 := W_1 (j := 50) 7 (by decide) (by decide) rfl hG z H
    simp only [bs, ne_eq, eq_self, not_true_eq_false, not_false_eq_true, if_true, if_false, i10, e44, e45, e46, e47, e48, e49, e50]
    rw [z, if_neg (show ¬ (7 : Fin 37) = 1 by decide), if_neg (show ¬ (7 : Fin 37) = 2 by decide), if_neg (show ¬ (7 : Fin 37) = 3 by decide), if_neg (show ¬ (7 : Fin 37) = 4 by decide), if_neg (show ¬ (7 : Fin 37) = 5 by decide), if_neg (show ¬ (7 : Fin 37) = 6 by decide), if_pos (show (7 : Fin 37) = 7 from rfl)]
    exact mr_bs (mr_bs (mr_nset (k := 6) (lo := 0) (hi := 999) hG (by omega) (by omega) (by omega) H))
  · have e44 := W_0 (j := 44) 1 (by decide) (by decide) rfl hG (by rw [z]; decide) H
    have e45 := W_0 (j := 45) 2 (by decide) (by decide) rfl hG (by rw [z]; decide) H
    have e46 := W_0 (j := 46) 3 (by decide) (by decide) rfl hG (by rw [z]; decide) H
    have e47 := W_0 (j := 47) 4 (by decide) (by decide) rfl hG (by rw [z]; decide) H
    have e48 := W_0 (j := 48) 5 (by decide) (by decide) rfl hG (by rw [z]; decide) H
    have e49 := W_0 (j := 49) 6 (by decide) (by decide) rfl hG (by rw [z]; decide) H
    have e50 := W_0 (j := 50) 7 (by decide) (by decide) rfl hG (by rw [z]; decide) H
    have e51 := W_1 (j := 51) 8 (by decide) (by decide) rfl hG z H
    simp only [bs, ne_eq, eq_self, not_true_eq_false, not_false_eq_true, if_true, if_false, i10, e44, e45, e46, e47, e48, e49, e50, e51]
    rw [z, if_neg (show ¬ (8 : Fin 37) = 1 by decide), if_neg (show ¬ (8 : Fin 37) = 2 by decide), if_neg (show ¬ (8 : Fin 37) = 3 by decide), if_neg (show ¬ (8 : Fin 37) = 4 by decide), if_neg (show ¬ (8 : Fin 37) = 5 by decide), if_neg (show ¬ (8 : Fin 37) = 6 by decide), if_neg (show ¬ (8 : Fin 37) = 7 by decide), if_pos (show (8 : Fin 37) = 8 from rfl)]
    exact mr_bs (mr_walk hG hX.1 H)
  · have e44 := W_0 (j := 44) 1 (by decide) (by decide) rfl hG (by rw [z]; decide) H
    have e45 := W_0 (j := 45) 2 (by decide) (by decide) rfl hG (by rw [z]; decide) H
    have e46 := W_0 (j := 46) 3 (by decide) (by decide) rfl hG (by rw [z]; decide) H
    have e47 := W_0 (j := 47) 4 (by decide) (by decide) rfl hG (by rw [z]; decide) H
    have e48 := W_0 (j := 48) 5 (by decide) (by decide) rfl hG (by rw [z]; decide) H
    have e49 := W_0 (j := 49) 6 (by decide) (by decide) rfl hG (by rw [z]; decide) H
    have e50 := W_0 (j := 50) 7 (by decide) (by decide) rfl hG (by rw [z]; decide) H
    have e51 := W_0 (j := 51) 8 (by decide) (by decide) rfl hG (by rw [z]; decide) H
    have e52 := W_1 (j := 52) 9 (by decide) (by decide) rfl hG z H
    simp only [bs, ne_eq, eq_self, not_true_eq_false, not_false_eq_true, if_true, if_false, i10, e44, e45, e46, e47, e48, e49, e50, e51, e52]
    rw [z, if_neg (show ¬ (9 : Fin 37) = 1 by decide), if_neg (show ¬ (9 : Fin 37) = 2 by decide), if_neg (show ¬ (9 : Fin 37) = 3 by decide), if_neg (show ¬ (9 : Fin 37) = 4 by decide), if_neg (show ¬ (9 : Fin 37) = 5 by decide), if_neg (show ¬ (9 : Fin 37) = 6 by decide), if_neg (show ¬ (9 : Fin 37) = 7 by decide), if_neg (show ¬ (9 : Fin 37) = 8 by decide), if_pos (show (9 : Fin 37) = 9 from rfl)]
    exact mr_bs (mr_cat hG hX H)
  · have e44 := W_0 (j := 44) 1 (by decide) (by decide) rfl hG (by rw [z]; decide) H
    have e45 := W_0 (j := 45) 2 (by decide) (by decide) rfl hG (by rw [z]; decide) H
    have e46 := W_0 (j := 46) 3 (by decide) (by decide) rfl hG (by rw [z]; decide) H
    have e47 := W_0 (j := 47) 4 (by decide) (by decide) rfl hG (by rw [z]; decide) H
    have e48 := W_0 (j := 48) 5 (by decide) (by decide) rfl hG (by rw [z]; decide) H
    have e49 := W_0 (j := 49) 6 (by decide) (by decide) rfl hG (by rw [z]; decide) H
    have e50 := W_0 (j := 50) 7 (by decide) (by decide) rfl hG (by rw [z]; decide) H
    have e51 := W_0 (j := 51) 8 (by decide) (by decide) rfl hG (by rw [z]; decide) H
    have e52 := W_0 (j := 52) 9 (by decide) (by decide) rfl hG (by rw [z]; decide) H
    have e53 := W_1 (j := 53) 10 (by decide) (by decide) rfl hG z H
    simp only [bs, ne_eq, eq_self, not_true_eq_false, not_false_eq_true, if_true, if_false, i10, e44, e45, e46, e47, e48, e49, e50, e51, e52, e53]
    rw [z, if_neg (show ¬ (10 : Fin 37) = 1 by decide), if_neg (show ¬ (10 : Fin 37) = 2 by decide), if_neg (show ¬ (10 : Fin 37) = 3 by decide), if_neg (show ¬ (10 : Fin 37) = 4 by decide), if_neg (show ¬ (10 : Fin 37) = 5 by decide), if_neg (show ¬ (10 : Fin 37) = 6 by decide), if_neg (show ¬ (10 : Fin 37) = 7 by decide), if_neg (show ¬ (10 : Fin 37) = 8 by decide), if_neg (show ¬ (10 : Fin 37) = 9 by decide), if_pos (show (10 : Fin 37) = 10 from rfl)]
    exact mr_bs (mr_curs (cl := 1) hG (by omega) hX.1 H)
  · have e44 := W_0 (j := 44) 1 (by decide) (by decide) rfl hG (by rw [z]; decide) H
    have e45 := W_0 (j := 45) 2 (by decide) (by decide) rfl hG (by rw [z]; decide) H
    have e46 := W_0 (j := 46) 3 (by decide) (by decide) rfl hG (by rw [z]; decide) H
    have e47 := W_0 (j := 47) 4 (by decide) (by decide) rfl hG (by rw [z]; decide) H
    have e48 := W_0 (j := 48) 5 (by decide) (by decide) rfl hG (by rw [z]; decide) H
    have e49 := W_0 (j := 49) 6 (by decide) (by decide) rfl hG (by rw [z]; decide) H
    have e50 := W_0 (j := 50) 7 (by decide) (by decide) rfl hG (by rw [z]; decide) H
    have e51 := W_0 (j := 51) 8 (by decide) (by decide) rfl hG (by rw [z]; decide) H
    have e52 := W_0 (j := 52) 9 (by decide) (by decide) rfl hG (by rw [z]; decide) H
    have e53 := W_0 (j := 53) 10 (by decide) (by decide) rfl hG (by rw [z]; decide) H
    have e54 := W_1 (j := 54) 11 (by decide) (by decide) rfl hG z H
    simp only [bs, ne_eq, eq_self, not_true_eq_false, not_false_eq_true, if_true, if_false, i10, e44, e45, e46, e47, e48, e49, e50, e51, e52, e53, e54]
    rw [z, if_neg (show ¬ (11 : Fin 37) = 1 by decide), if_neg (show ¬ (11 : Fin 37) = 2 by decide), if_neg (show ¬ (11 : Fin 37) = 3 by decide), if_neg (show ¬ (11 : Fin 37) = 4 by decide), if_neg (show ¬ (11 : Fin 37) = 5 by decide), if_neg (show ¬ (11 : Fin 37) = 6 by decide), if_neg (show ¬ (11 : Fin 37) = 7 by decide), if_neg (show ¬ (11 : Fin 37) = 8 by decide), if_neg (show ¬ (11 : Fin 37) = 9 by decide), if_neg (show ¬ (11 : Fin 37) = 10 by decide), if_pos (show (11 : Fin 37) = 11 from rfl)]
    exact mr_bs (mr_drau hG hX.1 H)
  · have e44 := W_0 (j := 44) 1 (by decide) (by decide) rfl hG (by rw [z]; decide) H
    have e45 := W_0 (j := 45) 2 (by decide) (by decide) rfl hG (by rw [z]; decide) H
    have e46 := W_0 (j := 46) 3 (by decide) (by decide) rfl hG (by rw [z]; decide) H
    have e47 := W_0 (j := 47) 4 (by decide) (by decide) rfl hG (by rw [z]; decide) H
    have e48 := W_0 (j := 48) 5 (by decide) (by decide) rfl hG (by rw [z]; decide) H
    have e49 := W_0 (j := 49) 6 (by decide) (by decide) rfl hG (by rw [z]; decide) H
    have e50 := W_0 (j := 50) 7 (by decide) (by decide) rfl hG (by rw [z]; decide) H
    have e51 := W_0 (j := 51) 8 (by decide) (by decide) rfl hG (by rw [z]; decide) H
    have e52 := W_0 (j := 52) 9 (by decide) (by decide) rfl hG (by rw [z]; decide) H
    have e53 := W_0 (j := 53) 10 (by decide) (by decide) rfl hG (by rw [z]; decide) H
    have e54 := W_0 (j := 54) 11 (by decide) (by decide) rfl hG (by rw [z]; decide) H
    have e55 := W_1 (j := 55) 12 (by decide) (by decide) rfl hG z H
    simp only [bs, ne_eq, eq_self, not_true_eq_false, not_false_eq_true, if_true, if_false, i10, e44, e45, e46, e47, e48, e49, e50, e51, e52, e53, e54, e55]
    rw [z, if_neg (show ¬ (12 : Fin 37) = 1 by decide), if_neg (show ¬ (12 : Fin 37) = 2 by decide), if_neg (show ¬ (12 : Fin 37) = 3 by decide), if_neg (show ¬ (12 : Fin 37) = 4 by decide), if_neg (show ¬ (12 : Fin 37) = 5 by decide), if_neg (show ¬ (12 : Fin 37) = 6 by decide), if_neg (show ¬ (12 : Fin 37) = 7 by decide), if_neg (show ¬ (12 : Fin 37) = 8 by decide), if_neg (show ¬ (12 : Fin 37) = 9 by decide), if_neg (show ¬ (12 : Fin 37) = 10 by decide), if_neg (show ¬ (12 : Fin 37) = 11 by decide), if_pos (show (12 : Fin 37) = 12 from rfl)]
    exact mr_bs (mr_cloud hG hX.1 H)
  · have e44 := W_0 (j := 44) 1 (by decide) (by decide) rfl hG (by rw [z]; decide) H
    have e45 := W_0 (j := 45) 2 (by decide) (by decide) rfl hG (by rw [z]; decide) H
    have e46 := W_0 (j := 46) 3 (by decide) (by decide) rfl hG (by rw [z]; decide) H
    have e47 := W_0 (j := 47) 4 (by decide) (by decide) rfl hG (by rw [z]; decide) H
    have e48 := W_0 (j := 48) 5 (by decide) (by decide) rfl hG (by rw [z]; decide) H
    have e49 := W_0 (j := 49) 6 (by decide) (by decide) rfl hG (by rw [z]; decide) H
    have e50 := W_0 (j := 50) 7 (by decide) (by decide) rfl hG (by rw [z]; decide) H
    have e51 := W_0 (j := 51) 8 (by decide) (by decide) rfl hG (by rw [z]; decide) H
    have e52 := W_0 (j := 52) 9 (by decide) (by decide) rfl hG (by rw [z]; decide) H
    have e53 := W_0 (j := 53) 10 (by decide) (by decide) rfl hG (by rw [z]; decide) H
    have e54 := W_0 (j := 54) 11 (by decide) (by decide) rfl hG (by rw [z]; decide) H
    have e55 := W_0 (j := 55) 12 (by decide) (by decide) rfl hG (by rw [z]; decide) H
    have e56 := W_1 (j := 56) 13 (by decide) (by decide) rfl hG z H
    simp only [bs, ne_eq, eq_self, not_true_eq_false, not_false_eq_true, if_true, if_false, i10, e44, e45, e46, e47, e48, e49, e50, e51, e52, e53, e54, e55, e56]
    rw [z, if_neg (show ¬ (13 : Fin 37) = 1 by decide), if_neg (show ¬ (13 : Fin 37) = 2 by decide), if_neg (show ¬ (13 : Fin 37) = 3 by decide), if_neg (show ¬ (13 : Fin 37) = 4 by decide), if_neg (show ¬ (13 : Fin 37) = 5 by decide), if_neg (show ¬ (13 : Fin 37) = 6 by decide), if_neg (show ¬ (13 : Fin 37) = 7 by decide), if_neg (show ¬ (13 : Fin 37) = 8 by decide), if_neg (show ¬ (13 : Fin 37) = 9 by decide), if_neg (show ¬ (13 : Fin 37) = 10 by decide), if_neg (show ¬ (13 : Fin 37) = 11 by decide), if_neg (show ¬ (13 : Fin 37) = 12 by decide)]
    exact mr_bs (mr_its (q := 13) hG (Or.inl rfl) (fun _ => rfl) (by omega) hX.1 hX.2.1 (fun _ => h6) H)
end MS
