/-! the whole text is read -/
section PAR2
variable {V : TV} {s F r c j t p q sim : Nat} {l : List Nat} {T : Tk} {w : Wd}
theorem Wp.s_t (W : Wp r c j t p q w) : Wp r c j (t + 1) p q w := ⟨W.1, W.2.1, fun u h1 h2 => W.2.2.1 u (by omega) h2, W.2.2.2⟩
theorem h31G {ru : Nat → Nat} (h : H31 T) : ∀ n t, H31 (kG ru n t T)
  | 0, _ => h
  | n + 1, t => by
    show H31 (if ru t = 0 then kG ru n (t + 1) T else (31, 0) :: (13, 0) :: (34, t) :: kG ru n (t + 1) T)
    split
    · exact h31G h n (t + 1)
    · exact ⟨_, _, rfl⟩
theorem h31K {a : Nat} (h : H31 T) : ∀ kc, H31 (kK a kc T)
  | 0 => h
  | _ + 1 => ⟨_, _, rfl⟩
theorem h31D {dg : Nat → Nat} {j : Nat} (h : H31 T) : H31 (kD dg j T) := by
  unfold kD
  split
  · exact h
  · exact ⟨_, _, rfl⟩
theorem h31C {cl dg : Nat → Nat} (h : H31 T) : ∀ n j, H31 (kC cl dg n j T)
  | 0, _ => h
  | n + 1, j => by
    show H31 (if cl j = 0 then kD dg j (kC cl dg n (j + 1) T) else (31, 0) :: (10, 0) :: (34, j) :: kD dg j (kC cl dg n (j + 1) T))
    split
    · exact h31D (h31C h n (j + 1))
    · exact ⟨_, _, rfl⟩
theorem rs_D {dg : Nat → Nat} {m : Nat} (hF : 0 < F) (hc : c ≤ 10) (W : Wp r c j t p q w) (hd : dg m = 0 ∨ (2 ≤ dg m ∧ dg m ≤ 5)) (b : m < c) (h : TK V (kD dg m T) l s) (g : ∀ F' s w, F ≤ F' + 1 → F' ≤ F → TK V T l s → Wp r c j t p q w → Rs (r_text V F' s w sim false) r c) : Rs (r_text V F s w sim false) r c := by
  unfold kD at h
  by_cases e : dg m = 0
  · rw [if_pos e] at h
    exact g F s w (by omega) (by omega) h W
  · rw [if_neg e] at h
    exact rs_dr hF hc W h b (by omega) (fun s w h W => g (F - 1) s w (by omega) (by omega) h W)
theorem rs_C {cl dg : Nat → Nat} (hT : H31 T) (hc : c ≤ 10) (hd : ∀ j, dg j = 0 ∨ (2 ≤ dg j ∧ dg j ≤ 5)) (g : ∀ F s w, 60 ≤ F → TK V T l s → Wp r c c t p q w → Rs (r_text V F s w sim false) r c) : ∀ n j F s (w : Wd), j + n = c → 60 + 2 * n ≤ F → TK V (kC cl dg n j T) l s → Wp r c j t p q w → Rs (r_text V F s w sim false) r c
  | 0, j, F, s, w, hj, hF, h, W => by
    obtain rfl : j = c := by omega
    exact g F s w hF h W
  | n + 1, j, F, s, w, hj, hF, h, W => by
    have h : TK V (if cl j = 0 then kD dg j (kC cl dg n (j + 1) T) else (31, 0) :: (10, 0) :: (34, j) :: kD dg j (kC cl dg n (j + 1) T)) l s := h
    have ih := rs_C (cl := cl) hT hc hd g n (j + 1)
    have hT2 := h31C (cl := cl) (dg := dg) hT n (j + 1)
    by_cases e : cl j = 0
    · rw [if_pos e] at h
      exact rs_D (by omega) hc W.sj (hd j) (by omega) h (fun F' s w h1 h2 h W => ih F' s w (by omega) (by omega) h W)
    · rw [if_neg e] at h
      exact rs_cu (by omega) (h31D hT2) hc W h (by omega) (fun s w h W => rs_D (by omega) hc W (hd j) (by omega) h (fun F' s w h1 h2 h W => ih F' s w (by omega) (by omega) h W))
theorem rs_G {ru : Nat → Nat} (hT : H31 T) (hrc : r * c ≤ 15) (g : ∀ F s w, 30 ≤ F → TK V T l s → (∃ p, Wp r c j (r * c) p q w) → Rs (r_text V F s w sim false) r c) : ∀ n t p F s (w : Wd), t + n = r * c → 30 + n ≤ F → p + cnt (fun u => nI (ru u)) (t + n) ≤ 5 + cnt (fun u => nI (ru u)) t → (∀ u, ru u < 2) → TK V (kG ru n t T) l s → Wp r c j t p q w → Rs (r_text V F s w sim false) r c
  | 0, t, p, F, s, w, hj, hF, hp, hu, h, W => by
    obtain rfl : t = r * c := by omega
    exact g F s w hF h ⟨p, W⟩
  | n + 1, t, p, F, s, w, hj, hF, hp, hu, h, W => by
    have h : TK V (if ru t = 0 then kG ru n (t + 1) T else (31, 0) :: (13, 0) :: (34, t) :: kG ru n (t + 1) T) l s := h
    have e1 : cnt (fun u => nI (ru u)) (t + 1) = cnt (fun u => nI (ru u)) t + (if nI (ru t) = 0 then 0 else 1) := rfl
    rw [show t + (n + 1) = t + 1 + n by omega] at hp
    have hmono : ∀ m a, cnt (fun u => nI (ru u)) a ≤ cnt (fun u => nI (ru u)) (a + m) := fun m => by
      induction m with
      | zero => exact fun a => Nat.le_refl _
      | succ m ih =>
        intro a
        have e : cnt (fun u => nI (ru u)) (a + (m + 1)) = cnt (fun u => nI (ru u)) (a + m) + (if nI (ru (a + m)) = 0 then 0 else 1) := rfl
        have := ih a
        omega
    by_cases e : ru t = 0
    · rw [if_pos e] at h
      rw [if_pos (by rw [e]; rfl)] at e1
      exact rs_G hT hrc g n (t + 1) p F s w (by omega) (by omega) (by omega) hu h W.s_t
    · rw [if_neg e] at h
      rw [if_neg (nI_ne0 (by omega) (by have := hu t; omega))] at e1
      have := hmono n (t + 1)
      exact rs_ru (by omega) (h31G hT n (t + 1)) hrc (by omega) W h (by omega) (fun s w p' hp' h W => rs_G hT hrc g n (t + 1) p' (F - 1) s w (by omega) (by omega) (by omega) hu h W)
/-- rows and columns -/
def rcw (r c : Nat) (w : Wd) : Prop := nn w 0 = r ∧ nn w 1 = c
theorem rcw.k {w1 : Wd} (h : rcw r c w) (k : Kp w w1) : rcw r c w1 := ⟨k.nn.1.trans h.1, k.nn.2.trans h.2⟩
theorem reloc_o {k : Nat} (h : k ≠ 8) (h2 : k ≠ 9) : p_reloc w k = w k := by
  unfold p_reloc
  split
  · cases e : p_near (upd w 8 (-1)) (nn w 1) 0 with
    | none => exact upd_ne h
    | some j =>
      show p_sett (upd w 8 (-1)) j k = w k
      unfold p_sett
      rw [upd_ne h2, upd_ne h, upd_ne h]
  · rfl
theorem ev_o {L : Nat} {q : Fin 37} (hq : q ≠ 23) (hq2 : q.val = 2 ∨ (14 ≤ q.val ∧ q.val ≤ 22)) (h : sgV V s = q) : r_ev V (L + 1) s w sim = x_ev V s w sim := by
  show r_one V (r_brk V (r_ev V L)) s w sim = _
  unfold r_one
  rw [h, if_neg hq, if_pos hq2]
theorem ev_0 {q : Fin 37} (hq : q ≠ 23) (hq2 : q.val = 2 ∨ (14 ≤ q.val ∧ q.val ≤ 22)) (h : sgV V s = q) : r_ev V 0 s w sim = x_ev V s w sim := by
  show r_one V (fun s _ _ => Sum.inl (4, s)) s w sim = _
  unfold r_one
  rw [h, if_neg hq, if_pos hq2]
theorem xe15 (h : sgV V s = 15) : x_ev V s w sim = x_spill V (nxV V s) w sim := by unfold x_ev; rw [h]; rfl
theorem xe17 (h : sgV V s = 17) : x_ev V s w sim = Sum.inr (nxV V s, upd w 10 (1 - w 10), sim) := by unfold x_ev; rw [h]; rfl
theorem xe21 (h : sgV V s = 21) : x_ev V s w sim = xb (x_num V (nxV V s) 1 300) (fun m => x_mins V (nxV V s) w sim m) := by unfold x_ev; rw [h]; rfl
theorem xe14 (h : sgV V s = 14) : x_ev V s w sim = x_items V 14 500 (nxV V s) w sim := by unfold x_ev; rw [h]; rfl
theorem kp_h1 {q : Fin 37} {u : Nat} : Kp w (x_h1 q w u) := by
  unfold x_h1
  split
  · split
    · exact Kp.refl.u (by omega)
    · split
      · exact Kp.refl.u (by omega)
      · exact Kp.refl.u (by omega)
  · exact Kp.refl
theorem kp_hd {q : Fin 37} {a d : Nat} : ∀ n, Kp w (x_hd q a d n w)
  | 0 => Kp.refl
  | n + 1 => (kp_hd n).trans kp_h1
/-- a spill -/
theorem rq_sp {sp : Nat} {L : Nat} (W : rcw r c w) (h0 : w (84 + sp) = 0) (h1 : w (244 + sp) = 0) (h : TK V ((15, 0) :: (34, sp) :: (34, 3) :: T) l s) (b : sp < r * c) : Rq (r_ev V (L + 1) s w sim) (fun s2 w2 sim2 => TK V T l s2 ∧ rcw r c w2 ∧ sim2 = sim) := by
  rw [ev_o (q := 15) (by decide) (by decide) h.1, xe15 h.1]
  unfold x_spill
  have t2 : TK V ((34, sp) :: (34, 3) :: T) l (nxV V s) := h.2.2
  rw [t2.num (Nat.zero_le _) (by unfold p_rc; rw [W.1, W.2]; omega)]
  show Rq (if p_free w sp = true then xb (x_num V (nxV V (nxV V s)) 1 99) _ else _) _
  have hf : p_free w sp = true := by
    unfold p_free
    rw [h0, h1]
    rfl
  rw [if_pos hf, (show TK V ((34, 3) :: T) l (nxV V (nxV V s)) from t2.2.2).num (by omega) (by omega)]
  exact Rq.i ⟨t2.2.2.2.2, W.k (Kp.refl.u (by omega)), rfl⟩
/-- bowls in a row -/
theorem rq_bo {row : Nat} {L : Nat} (hT : H31 T) (W : rcw r c w) (h : TK V ((14, 0) :: (24, 0) :: (34, row) :: T) l s) (b : row < r) : Rq (r_ev V (L + 1) s w sim) (fun s2 w2 sim2 => TK V T l s2 ∧ rcw r c w2 ∧ sim2 = sim) := by
  rw [ev_o (q := 14) (by decide) (by decide) h.1, xe14 h.1, x_items_s]
  have t2 : TK V ((24, 0) :: (34, row) :: T) l (nxV V s) := h.2.2
  have t3 : TK V ((34, row) :: T) l (nxV V (nxV V s)) := t2.2.2
  have t4 : TK V T l (nxV V (nxV V (nxV V s))) := t3.2.2
  have hi : x_item V 14 (nxV V s) w sim = Sum.inr (nxV V (nxV V (nxV V s)), x_hd 14 (row * nn w 1) 1 (nn w 1) w, sim) := by
    unfold x_item
    rw [t2.1, if_pos rfl, t3.num (Nat.zero_le _) (by rw [W.1]; omega)]
    show x_line V 14 (nxV V (nxV V s)) w sim (row * nn w 1) 1 (nn w 1) = _
    unfold x_line
    rw [if_neg (fun q => absurd q.1 (by decide))]
  rw [hi]
  show Rq (if sgV V (nxV V (nxV V (nxV V s))) = 34 ∨ sgV V (nxV V (nxV V (nxV V s))) = 24 ∨ sgV V (nxV V (nxV V (nxV V s))) = 25 then _ else Sum.inr (nxV V (nxV V (nxV V s)), x_hd 14 (row * nn w 1) 1 (nn w 1) w, sim)) _
  rw [t4.n34 hT, if_neg (by decide)]
  exact Rq.i ⟨t4, W.k (kp_hd _), rfl⟩
/-- turn; two minutes -/
theorem rq_body {L : Nat} (W : rcw r c w) (hs : sim ≤ 100) (h : TK V ((17, 0) :: (31, 0) :: (21, 0) :: (34, 2) :: (33, 0) :: T) l s) : Rq (r_evs V (r_ev V (L + 1)) 501 s w sim) (fun s2 w2 sim2 => TK V ((33, 0) :: T) l s2 ∧ rcw r c w2 ∧ sim2 = sim + 2) := by
  have t2 : TK V ((31, 0) :: (21, 0) :: (34, 2) :: (33, 0) :: T) l (nxV V s) := h.2.2
  have t3 : TK V ((21, 0) :: (34, 2) :: (33, 0) :: T) l (nxV V (nxV V s)) := t2.2.2
  have t4 : TK V ((34, 2) :: (33, 0) :: T) l (nxV V (nxV V (nxV V s))) := t3.2.2
  have t5 : TK V ((33, 0) :: T) l (nxV V (nxV V (nxV V (nxV V s)))) := t4.2.2
  rw [r_evs_s, ev_o (q := 17) (by decide) (by decide) h.1, xe17 h.1]
  show Rq (if sgV V (nxV V s) = 31 then r_evs V (r_ev V (L + 1)) 500 (nxV V (nxV V s)) (upd w 10 (1 - w 10)) sim else _) _
  rw [t2.1, if_pos rfl, r_evs_s, ev_o (q := 21) (by decide) (by decide) t3.1, xe21 t3.1, t4.num (by omega) (by omega)]
  show Rq (xb (x_mins V (nxV V (nxV V (nxV V s))) (upd w 10 (1 - w 10)) sim 2) _) _
  unfold x_mins
  rw [if_neg (by omega)]
  show Rq (if sgV V (nxV V (nxV V (nxV V (nxV V s)))) = 31 then _ else if sgV V (nxV V (nxV V (nxV V (nxV V s)))) = 33 then Sum.inr (nxV V (nxV V (nxV V (nxV V s))), p_passN 2 (upd w 10 (1 - w 10)), sim + 2) else _) _
  rw [t5.1, if_neg (by decide), if_pos rfl]
  exact Rq.i ⟨t5, W.k (Kp.trans (Kp.refl.u (by omega)) (kp_passN 2 _)), rfl⟩
theorem rq_rep {L s0 : Nat} (h : TK V ((17, 0) :: (31, 0) :: (21, 0) :: (34, 2) :: (33, 0) :: T) l s0) : ∀ m sl (w : Wd) sim, rcw r c w → sim + 2 * m ≤ 50 → (m = 0 → TK V ((33, 0) :: T) l sl) → Rq (r_rep (r_evs V (r_ev V (L + 1)) 501 s0) m sl w sim) (fun s2 w2 sim2 => TK V ((33, 0) :: T) l s2 ∧ rcw r c w2 ∧ sim2 ≤ 50)
  | 0, sl, w, sim, W, hs, h0 => Rq.i ⟨h0 rfl, W, by omega⟩
  | m + 1, sl, w, sim, W, hs, h0 => by
    rw [r_rep_s]
    refine Rq.b (rq_body W (by omega) h) (fun s2 w2 sim2 q => ?_)
    obtain ⟨a, b, rfl⟩ := q
    exact rq_rep h m s2 w2 (sim + 2) b (by omega) (fun _ => a)
theorem rq_re {tm : Nat} {L : Nat} (W : rcw r c w) (hs : sim = 0) (h : TK V ((23, 0) :: (34, tm) :: (32, 0) :: (17, 0) :: (31, 0) :: (21, 0) :: (34, 2) :: (33, 0) :: T) l s) (b1 : 1 ≤ tm) (b2 : tm ≤ 2) : Rq (r_ev V (L + 2) s w sim) (fun s2 w2 sim2 => TK V T l s2 ∧ rcw r c w2) := by
  have t2 : TK V ((34, tm) :: (32, 0) :: (17, 0) :: (31, 0) :: (21, 0) :: (34, 2) :: (33, 0) :: T) l (nxV V s) := h.2.2
  have t3 : TK V ((32, 0) :: (17, 0) :: (31, 0) :: (21, 0) :: (34, 2) :: (33, 0) :: T) l (nxV V (nxV V s)) := t2.2.2
  have t4 : TK V ((17, 0) :: (31, 0) :: (21, 0) :: (34, 2) :: (33, 0) :: T) l (bod V s) := t3.2.2
  show Rq (r_one V (r_brk V (r_ev V (L + 1))) s w sim) _
  unfold r_one
  rw [h.1, if_pos rfl]
  unfold r_brk
  rw [t2.num b1 (by omega)]
  show Rq (if sgV V (nxV V (nxV V s)) = 32 then xb (r_rep (r_evs V (r_ev V (L + 1)) 501 (bod V s)) tm 0 w sim) _ else _) _
  rw [t3.1, if_pos rfl]
  refine Rq.b (rq_rep t4 tm 0 w sim W (by omega) (fun e => by omega)) (fun s2 w2 sim2 q => ?_)
  exact Rq.i ⟨q.1.2.2, q.2.1⟩
/-- an event of the text -/
theorem rs_ev {beg : Bool} (hF : 0 < F) (h : TK V ((31, 0) :: T) l s) (hq : beg = true ∨ 13 < (sgV V (nxV V s)).val) {Q : Nat → Wd → Nat → Prop} (e : TK V T l (nxV V s) → Rq (r_ev V 3 (nxV V s) (if beg = true then w else p_reloc w) sim) Q) (g : ∀ s w sim, Q s w sim → Rs (r_text V (F - 1) s w sim true) r c) : Rs (r_text V F s w sim beg) r c := by
  obtain ⟨F, rfl⟩ : ∃ f, F = f + 1 := ⟨F - 1, by omega⟩
  obtain ⟨s2, w2, sim2, e2, q2⟩ := e h.2.2
  rw [r_text_s, h.1, if_pos rfl, if_neg (fun z => by
    rcases hq with q | q
    · rw [z.1] at q; cases q
    · omega), e2]
  exact g s2 w2 sim2 q2
theorem rs_E {sp row tm : Nat} (hF : 10 ≤ F) (W : Wp r c j t p q w) (hsp : sp < r * c) (hrc : r * c ≤ 15) (hrow : row < r) (b1 : 1 ≤ tm) (b2 : tm ≤ 2) (h : TK V (kE sp row tm) [] s) : Rs (r_text V F s w 0 false) r c := by
  unfold kE at h
  have hq : sgV V (nxV V s) = 15 := h.2.2.1
  refine rs_ev (by omega) h (Or.inr (by rw [hq]; decide)) (fun h => rq_sp (L := 2) ?_ ?_ ?_ h hsp) (fun s w sim q => ?_)
  · exact rcw.k W.1 kp_reloc
  · show p_reloc w (84 + sp) = 0
    rw [reloc_o (by omega) (by omega)]
    exact (W.2.2.2.2.2 sp (by omega)).1
  · show p_reloc w (244 + sp) = 0
    rw [reloc_o (by omega) (by omega)]
    exact (W.2.2.2.2.2 sp (by omega)).2
  obtain ⟨h, W, rfl⟩ := q
  refine rs_ev (by omega) h (Or.inl rfl) (fun h => rq_bo (L := 2) ⟨_, _, rfl⟩ W h hrow) (fun s w sim q => ?_)
  obtain ⟨h, W, rfl⟩ := q
  refine rs_ev (by omega) h (Or.inl rfl) (fun h => rq_re (L := 1) W rfl h b1 b2) (fun s w sim q => ?_)
  obtain ⟨h, W⟩ := q
  obtain ⟨f, ef⟩ : ∃ f, F - 1 - 1 - 1 = f + 1 := ⟨F - 4, by omega⟩
  rw [ef, r_text_s]
  have e36 : sgV V s = 36 := if_pos (by have h : s + 0 = V.2.1 := h.1; omega)
  rw [e36, if_neg (by decide), if_pos rfl]
  exact ⟨s, w, sim, rfl, W.1, W.2⟩
/-- from the first byte on -/
theorem rs_all {f : Nat → Nat} {rg : Bool} {rt : Nat → Nat} {R : Nat} {cl dg : Nat → Nat} {a kc : Nat} {ru : Nat → Nat} {sp row tm : Nat} (ok : txok f rt R cl dg r c a kc ru sp row tm) (h : TK V (ktx f rg rt R cl dg c a kc ru (r * c) sp row tm) [] (t_skip V.1 V.2.1 0)) : Rs (r_all V) r c := by
  obtain ⟨hcc, ⟨f0, f1, f2, f3, f4, f5, f6, f7, f8, f11, f19⟩, ⟨hR, hrt⟩, ⟨hcl, hdg⟩, ⟨hkc, ha⟩, ⟨hru, hcn⟩, ⟨hsp, hrow, htm1, htm⟩⟩ := ok
  have hT : r * c ≤ 15 := Nat.mul_le_mul hcc.2.1 hcc.2.2.2
  unfold ktx k0 at h
  rw [f0, f1] at h
  unfold r_all x_floor
  rw [h.1, if_pos rfl]
  obtain ⟨-, -, h⟩ := h
  rw [h.num (by omega) (by omega)]
  obtain ⟨-, -, h⟩ := h
  show Rs (xb (xb (x_num V (nxV V (nxV V (t_skip V.1 V.2.1 0))) 2 10) _) _) r c
  rw [h.num (by omega) (by omega)]
  obtain ⟨-, -, h⟩ := h
  show Rs (r_text V 501 (nxV V (nxV V (nxV V (t_skip V.1 V.2.1 0)))) (p_start (nI r) (nI c)) 0 false) r c
  have W : Wp r c 0 0 0 0 (p_start (nI r) (nI c)) := by
    have z : ∀ k, 16 < k → p_start (nI r) (nI c) k = 0 := fun k hk => by
      unfold p_start
      rw [if_neg (by omega), if_neg (by omega), if_neg (by omega), if_neg (by omega), if_neg (by omega), if_neg (by omega), if_neg (by omega), if_neg (by omega), if_neg (by omega)]
    have m : ∀ n, p_mk (p_start (nI r) (nI c)) 164 n = 0 := fun n => by
      induction n with
      | zero => rfl
      | succ n ih => rw [p_mk_s, ih, z _ (by omega), if_pos rfl]
    refine ⟨⟨nn_of (show p_start (nI r) (nI c) 0 = nI r from rfl) (by omega), nn_of (show p_start (nI r) (nI c) 1 = nI c from rfl) (by omega)⟩, fun i _ _ => z _ (by omega), fun u _ _ => z _ (by omega), m 80, nn_of (show p_start (nI r) (nI c) 24 = nI 0 from rfl) (by omega), fun u _ => ⟨z _ (by omega), z _ (by omega)⟩⟩
  generalize p_start (nI r) (nI c) = w at W
  refine rs_n (k := 2) (by omega) h (by decide) (by decide) (fun s h => xs1 h) (by omega) (by omega) (fun s h => ?_)
  have W := W.u (k := 2) (v := nI (f 2)) (by omega)
  refine rs_n (k := 3) (by omega) h (by decide) (by decide) (fun s h => xs2 h) (by omega) (by omega) (fun s h => ?_)
  have W := W.u (k := 3) (v := nI (f 3)) (by omega)
  refine rs_n (k := 4) (by omega) h (by decide) (by decide) (fun s h => xs3 h) (by omega) (by omega) (fun s h => ?_)
  have W := W.u (k := 4) (v := nI (f 4)) (by omega)
  refine rs_n (k := 5) (by omega) h (by decide) (by decide) (fun s h => xs4 h) (by omega) (by omega) (fun s h => ?_)
  have W := W.u (k := 5) (v := nI (f 5)) (by omega)
  refine rs_n (k := 20) (by omega) h (by decide) (by decide) (fun s h => xs5 h) (by omega) (by omega) (fun s h => ?_)
  have W := W.u (k := 20) (v := nI (f 6)) (by omega)
  refine rs_n (k := 21) (by omega) h (by decide) (by decide) (fun s h => xs6 h) (by omega) (by omega) (fun s h => ?_)
  have W := W.u (k := 21) (v := nI (f 7)) (by omega)
  refine rs_n (k := 6) (by omega) h (by decide) (by decide) (fun s h => xs7 h) (by omega) (by omega) (fun s h => ?_)
  have W := W.u (k := 6) (v := nI (f 8)) (by omega)
  have hE : H31 (kE sp row tm) := ⟨_, _, rfl⟩
  have hG := h31G (ru := ru) hE (r * c) 0
  have hK := h31K (a := a) hG kc
  have hC := h31C (cl := cl) (dg := dg) hK c 0
  refine rs_w (by omega) W h (by omega) (fun s w h W => ?_)
  refine rs_c (by omega) hC W hR hrt h (by omega) (fun s w h W => ?_)
  refine rs_C hK (by omega) hdg (fun F s w hF h W => ?_) c 0 _ s w (by omega) (by omega) h W
  have fin : ∀ F s w q, 50 ≤ F → TK V (kG ru (r * c) 0 (kE sp row tm)) [] s → Wp r c c 0 0 q w → Rs (r_text V F s w 0 false) r c := fun F s w q hF h W => rs_G hE hT (fun F s w hF h W => by
    obtain ⟨p, W⟩ := W
    exact rs_E (by omega) W hsp hT hrow htm1 htm h) (r * c) 0 0 F s w (by omega) (by omega) (by rw [Nat.zero_add, Nat.zero_add]; exact Nat.le_trans hcn (by omega)) hru h W
  by_cases e : kc = 0
  · subst e
    exact fin F s w 0 (by omega) h W
  · obtain rfl : kc = 1 := by omega
    exact rs_cl (by omega) W h ha (fun s w h W => fin (F - 1) s w 1 (by omega) h W)
end PAR2
