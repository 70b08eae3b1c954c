/-! THE TEXT, as a function of tokens and a row (x_..): settings and single events -/
def x_nset (V : TV) (k lo hi s : Nat) (w : Wd) (sim : Nat) : XR (Nat × Wd × Nat) := xb (x_num V s lo hi) fun v => Sum.inr (nxV V s, upd w k (nI v), sim)
def x_walk (V : TV) (s : Nat) (w : Wd) (sim : Nat) : XR (Nat × Wd × Nat) := xb (x_num V s 0 (nn w 1 - 1)) fun c => if sgV V (nxV V s) = 29 then Sum.inr (nxV V (nxV V s), upd (upd w 9 (nI c)) 10 0, sim) else if sgV V (nxV V s) = 30 then Sum.inr (nxV V (nxV V s), upd (upd w 9 (nI c)) 10 1, sim) else Sum.inl (1, nxV V s)
def x_mv (q : Fin 37) : Option Nat := if q = 26 then some 0 else if q = 27 then some 1 else if q = 28 then some 2 else if q = 29 then some 3 else if q = 30 then some 4 else none
def p_push (w : Wd) (k m : Nat) : Wd := upd (upd w (54 + k) (nI m)) 17 (nI (k + 1))
def x_route (V : TV) : Nat → Nat → Nat → Wd → Nat → XR (Nat × Wd × Nat)
  | 0, _, s, w, sim => Sum.inr (s, w, sim)
  | f + 1, k, s, w, sim => match x_mv (sgV V s) with
    | none => Sum.inr (s, w, sim)
    | some m => if k = 30 then Sum.inl (4, s) else x_route V f (k + 1) (nxV V s) (p_push w k m) sim
theorem x_route_s (V : TV) (f k s : Nat) (w : Wd) (sim : Nat) : x_route V (f + 1) k s w sim = match x_mv (sgV V s) with
    | none => Sum.inr (s, w, sim)
    | some m => if k = 30 then Sum.inl (4, s) else x_route V f (k + 1) (nxV V s) (p_push w k m) sim := rfl
def p_m0 (w : Wd) : Wd := fun k => if k = 17 then 0 else if 54 ≤ k ∧ k < 84 then 0 else w k
def x_cat (V : TV) (s : Nat) (w : Wd) (sim : Nat) : XR (Nat × Wd × Nat) := xb (x_num V s 0 (p_rc w - 1)) fun t => x_route V 31 0 (nxV V s) (p_m0 (upd w 16 (nI t))) sim
def x_drau (V : TV) (s : Nat) (w : Wd) (sim : Nat) : XR (Nat × Wd × Nat) := xb (x_num V s 0 (nn w 1 - 1)) fun c => xb (x_num V (nxV V s) 2 60) fun v => Sum.inr (nxV V (nxV V s), upd w (36 + c) (nI v), sim)
def p_cld (w : Wd) (a z : Nat) : Wd := upd (upd (upd w (46 + 2 * nn w 24) (nI a)) (47 + 2 * nn w 24) (nI z)) 24 (nI (nn w 24 + 1))
def x_cloud (V : TV) (s : Nat) (w : Wd) (sim : Nat) : XR (Nat × Wd × Nat) := xb (x_num V s 0 159) fun a => xb (x_num V (nxV V s) a 159) fun z => Sum.inr (nxV V (nxV V s), p_cld w a z, sim)
def x_cur (V : TV) (cl : Nat) : Nat → Nat → Wd → Nat → XR (Nat × Wd × Nat)
  | 0, s, _, _ => Sum.inl (1, s)
  | f + 1, s, w, sim => xb (x_num V s 0 (nn w 1 - 1)) fun c => if w (26 + c) = nI cl then Sum.inl (3, s) else if sgV V (nxV V s) = 34 then x_cur V cl f (nxV V s) (upd w (26 + c) (nI cl)) sim else Sum.inr (nxV V s, upd w (26 + c) (nI cl), sim)
theorem x_cur_s (V : TV) (cl f s : Nat) (w : Wd) (sim : Nat) : x_cur V cl (f + 1) s w sim = xb (x_num V s 0 (nn w 1 - 1)) fun c => if w (26 + c) = nI cl then Sum.inl (3, s) else if sgV V (nxV V s) = 34 then x_cur V cl f (nxV V s) (upd w (26 + c) (nI cl)) sim else Sum.inr (nxV V s, upd w (26 + c) (nI cl), sim) := rfl
def x_want (q : Fin 37) (w : Wd) (t : Nat) : Bool := if q = 13 then decide (w (164 + t) = 0) else if q = 14 then p_free w t else !decide (w (244 + t) = 0)
def x_cnt (q : Fin 37) (w : Wd) (a d : Nat) : Nat → Nat
  | 0 => 0
  | i + 1 => x_cnt q w a d i + (if x_want q w (a + i * d) = true then 1 else 0)
theorem x_cnt_s (q : Fin 37) (w : Wd) (a d i : Nat) : x_cnt q w a d (i + 1) = x_cnt q w a d i + (if x_want q w (a + i * d) = true then 1 else 0) := rfl
def x_h1 (q : Fin 37) (w : Wd) (t : Nat) : Wd := if x_want q w t = true then (if q = 13 then upd w (164 + t) 1 else if q = 14 then upd w (84 + t) 1 else upd w (244 + t) 0) else w
def x_hd (q : Fin 37) (a d : Nat) : Nat → Wd → Wd
  | 0, w => w
  | i + 1, w => x_h1 q (x_hd q a d i w) (a + i * d)
theorem x_hd_s (q : Fin 37) (a d i : Nat) (w : Wd) : x_hd q a d (i + 1) w = x_h1 q (x_hd q a d i w) (a + i * d) := rfl
def p_mk (w : Wd) (o : Nat) : Nat → Nat
  | 0 => 0
  | k + 1 => p_mk w o k + (if w (o + k) = 0 then 0 else 1)
theorem p_mk_s (w : Wd) (o k : Nat) : p_mk w o (k + 1) = p_mk w o k + (if w (o + k) = 0 then 0 else 1) := rfl
def x_line (V : TV) (q : Fin 37) (s : Nat) (w : Wd) (sim a d len : Nat) : XR (Nat × Wd × Nat) := if q = 13 ∧ 6 < p_mk w 164 80 + x_cnt q w a d len then Sum.inl (4, s) else Sum.inr (nxV V s, x_hd q a d len w, sim)
def x_item (V : TV) (q : Fin 37) (s : Nat) (w : Wd) (sim : Nat) : XR (Nat × Wd × Nat) := if sgV V s = 24 then xb (x_num V (nxV V s) 0 (nn w 0 - 1)) fun r => x_line V q (nxV V s) w sim (r * nn w 1) 1 (nn w 1) else if sgV V s = 25 then xb (x_num V (nxV V s) 0 (nn w 1 - 1)) fun c => x_line V q (nxV V s) w sim c (nn w 1) (nn w 0) else xb (x_num V s 0 (p_rc w - 1)) fun t => if x_want q w t = true then x_line V q s w sim t 1 1 else Sum.inl (3, s)
def x_items (V : TV) (q : Fin 37) : Nat → Nat → Wd → Nat → XR (Nat × Wd × Nat)
  | 0, s, _, _ => Sum.inl (1, s)
  | f + 1, s, w, sim => xb (x_item V q s w sim) fun r => if sgV V r.1 = 34 ∨ sgV V r.1 = 24 ∨ sgV V r.1 = 25 then x_items V q f r.1 r.2.1 r.2.2 else Sum.inr r
theorem x_items_s (V : TV) (q : Fin 37) (f s : Nat) (w : Wd) (sim : Nat) : x_items V q (f + 1) s w sim = xb (x_item V q s w sim) fun r => if sgV V r.1 = 34 ∨ sgV V r.1 = 24 ∨ sgV V r.1 = 25 then x_items V q f r.1 r.2.1 r.2.2 else Sum.inr r := rfl
def x_spill (V : TV) (s : Nat) (w : Wd) (sim : Nat) : XR (Nat × Wd × Nat) := xb (x_num V s 0 (p_rc w - 1)) fun t => if p_free w t = true then xb (x_num V (nxV V s) 1 99) fun v => Sum.inr (nxV V (nxV V s), upd w (244 + t) (nI v), sim) else Sum.inl (3, s)
def x_carry (V : TV) (s : Nat) (w : Wd) (sim : Nat) : XR (Nat × Wd × Nat) := xb (x_num V s 0 (p_rc w - 1)) fun t => if w 16 = -1 then Sum.inl (3, s) else Sum.inr (nxV V s, upd w 16 (nI t), sim)
def x_mins (V : TV) (s : Nat) (w : Wd) (sim m : Nat) : XR (Nat × Wd × Nat) := if 2000 < sim + m then Sum.inl (4, s) else Sum.inr (nxV V s, p_passN m w, sim + m)
def x_set (V : TV) (s : Nat) (w : Wd) (sim : Nat) : XR (Nat × Wd × Nat) :=
  if sgV V s = 1 then x_nset V 2 1 20 (nxV V s) w sim else if sgV V s = 2 then x_nset V 3 1 5 (nxV V s) w sim else if sgV V s = 3 then x_nset V 4 1 99 (nxV V s) w sim else if sgV V s = 4 then x_nset V 5 0 9 (nxV V s) w sim else if sgV V s = 5 then x_nset V 20 0 99 (nxV V s) w sim else if sgV V s = 6 then x_nset V 21 0 20 (nxV V s) w sim else if sgV V s = 7 then x_nset V 6 0 999 (nxV V s) w sim else if sgV V s = 8 then x_walk V (nxV V s) w sim else if sgV V s = 9 then x_cat V (nxV V s) w sim else if sgV V s = 10 then x_cur V 1 500 (nxV V s) w sim else if sgV V s = 11 then x_drau V (nxV V s) w sim else if sgV V s = 12 then (if nn w 24 = 4 then Sum.inl (4, s) else x_cloud V (nxV V s) w sim) else x_items V 13 500 (nxV V s) w sim
def x_ev (V : TV) (s : Nat) (w : Wd) (sim : Nat) : XR (Nat × Wd × Nat) :=
  if sgV V s = 2 then x_nset V 3 1 5 (nxV V s) w sim else if sgV V s = 15 then x_spill V (nxV V s) w sim else if sgV V s = 17 then Sum.inr (nxV V s, upd w 10 (1 - w 10), sim) else if sgV V s = 18 then x_cur V 0 500 (nxV V s) w sim else if sgV V s = 19 then x_cur V 1 500 (nxV V s) w sim else if sgV V s = 20 then x_carry V (nxV V s) w sim else if sgV V s = 21 then xb (x_num V (nxV V s) 1 300) (fun m => x_mins V (nxV V s) w sim m) else if sgV V s = 22 then x_mins V s w sim (nn w 0 * nn w 2 - nn w 7) else x_items V (sgV V s) 500 (nxV V s) w sim
/-! the counts in the row -/
theorem nz_push {r : Wd} {k m : Nat} (hk : nn r 17 = k) (h : k < 30) : nz (upd (upd r (54 + k) (nI m)) 17 (nI (k + 1))) = p_push (nz r) k m := by
  have e17 : nn (upd (upd r (54 + k) (nI m)) 17 (nI (k + 1))) 17 = k + 1 := nn_of upd_eq (by omega)
  have e24 : nn (upd (upd r (54 + k) (nI m)) 17 (nI (k + 1))) 24 = nn r 24 := nn_cg (by rw [upd_ne (by omega), upd_ne (by omega)])
  have e19 : nn (upd (upd r (54 + k) (nI m)) 17 (nI (k + 1))) 19 = nn r 19 := nn_cg (by rw [upd_ne (by omega), upd_ne (by omega)])
  funext q
  unfold p_push
  rw [upd_e, upd_e]
  unfold nz
  rw [e17, e24, e19, hk, upd_e, upd_e]
  repeat' split
  all_goals first | rfl | (exfalso; omega)
theorem nz_m0 {r : Wd} : nz (upd r 17 0) = p_m0 (nz r) := by
  have e17 : nn (upd r 17 0) 17 = 0 := nn_of (n := 0) upd_eq (by omega)
  have e24 : nn (upd r 17 0) 24 = nn r 24 := nn_cg (upd_ne (by omega))
  have e19 : nn (upd r 17 0) 19 = nn r 19 := nn_cg (upd_ne (by omega))
  funext q
  unfold p_m0 nz
  rw [e17, e24, e19, upd_e]
  repeat' split
  all_goals first | rfl | (exfalso; omega)
theorem nz_cld {r : Wd} {c a z : Nat} (hk : nn r 24 = c) (h : c < 4) : nz (upd (upd (upd r (46 + 2 * c) (nI a)) (47 + 2 * c) (nI z)) 24 (nI (c + 1))) = upd (upd (upd (nz r) (46 + 2 * c) (nI a)) (47 + 2 * c) (nI z)) 24 (nI (c + 1)) := by
  have e24 : nn (upd (upd (upd r (46 + 2 * c) (nI a)) (47 + 2 * c) (nI z)) 24 (nI (c + 1))) 24 = c + 1 := nn_of upd_eq (by omega)
  have e17 : nn (upd (upd (upd r (46 + 2 * c) (nI a)) (47 + 2 * c) (nI z)) 24 (nI (c + 1))) 17 = nn r 17 := nn_cg (by rw [upd_ne (by omega), upd_ne (by omega), upd_ne (by omega)])
  have e19 : nn (upd (upd (upd r (46 + 2 * c) (nI a)) (47 + 2 * c) (nI z)) 24 (nI (c + 1))) 19 = nn r 19 := nn_cg (by rw [upd_ne (by omega), upd_ne (by omega), upd_ne (by omega)])
  funext q
  rw [upd_e, upd_e, upd_e]
  unfold nz
  rw [e17, e24, e19, hk, upd_e, upd_e, upd_e]
  repeat' split
  all_goals first | rfl | (exfalso; omega)
theorem vw_push {i : Fin 12} {hi : HI} {k m : Nat} (hk : nn (vw_ i hi) 17 = k) (h : k < 30) : vw_ i (am_u (am_u hi (wa i 5) k (nI m)) (wa i 1) 12 (nI (k + 1))) = p_push (vw_ i hi) k m := by
  have e : nn (vw_ i hi) 17 = nn (rv i hi) 17 := by unfold nn vw_; rw [nz_p (by decide)]
  have ha : adr (54 + k) = (5, k) := by
    unfold adr
    rw [if_neg (by omega), if_neg (by omega), if_neg (by omega), if_neg (by omega), if_pos (by omega), show 54 + k - 54 = k by omega]
  unfold vw_
  rw [rv_u (k := 17) (by decide) (by decide) rfl, rv_u (k := 54 + k) (by omega) (by omega) ha]
  exact nz_push (by rw [← e]; exact hk) h
theorem vw_m0 {i : Fin 12} {hi : HI} : vw_ i (am_u hi (wa i 1) 12 0) = p_m0 (vw_ i hi) := by
  unfold vw_
  rw [rv_u (k := 17) (by decide) (by decide) rfl, nz_m0]
theorem vw_cld {i : Fin 12} {hi : HI} {c a z : Nat} (hk : nn (vw_ i hi) 24 = c) (h : c < 4) : vw_ i (am_u (am_u (am_u hi (wa i 3) c (nI a)) (wa i 4) c (nI z)) (wa i 1) 11 (nI (c + 1))) = p_cld (vw_ i hi) a z := by
  have e : nn (vw_ i hi) 24 = nn (rv i hi) 24 := by unfold nn vw_; rw [nz_p (by decide)]
  have ha : adr (46 + 2 * c) = (3, c) := by
    unfold adr
    rw [if_neg (by omega), if_neg (by omega), if_neg (by omega), if_pos (by omega), show (46 + 2 * c - 46) % 2 = 0 by omega, show (46 + 2 * c - 46) / 2 = c by omega]
  have hb : adr (47 + 2 * c) = (4, c) := by
    unfold adr
    rw [if_neg (by omega), if_neg (by omega), if_neg (by omega), if_pos (by omega), show (47 + 2 * c - 46) % 2 = 1 by omega, show (47 + 2 * c - 46) / 2 = c by omega]
  unfold p_cld
  rw [hk]
  unfold vw_
  rw [rv_u (k := 24) (by decide) (by decide) rfl, rv_u (k := 47 + 2 * c) (by omega) (by omega) hb, rv_u (k := 46 + 2 * c) (by omega) (by omega) ha]
  exact nz_cld (by rw [← e]; exact hk) h
