/-! the class: one setting, one event, as the loop has them -/
def fl_ (h h1 : HI) : Prop := ∀ a k, (∀ j, a ≠ wa 1 j) → ¬ (a = za 35 ∧ k = 4) → ¬ (a = za 34 ∧ 4 ≤ k) → a ≠ za 39 → a ≠ za 40 → h1 a k = h a k
theorem fl_.refl (h : HI) : fl_ h h := fun _ _ _ _ _ _ _ => rfl
theorem fl_.trans {h h1 h2 : HI} (a : fl_ h h1) (b : fl_ h1 h2) : fl_ h h2 := fun x k c1 c2 c3 c4 c5 => (b x k c1 c2 c3 c4 c5).trans (a x k c1 c2 c3 c4 c5)
theorem fl_.of {h h1 : HI} (a : fe_ h h1) : fl_ h h1 := fun x k c1 c2 c3 _ _ => a x k c1 c2 (fun q => c3 ⟨q.1, by omega⟩)
theorem fl_.u {h h1 : HI} (a : fl_ h h1) {k : Nat} {v : Int32} (hk : 4 ≤ k) : fl_ h (am_u h1 (za 34) k v) := fun x j c1 c2 c3 c4 c5 => by
  by_cases q : x = za 34
  · subst q
    rw [au_k (fun q => c3 ⟨rfl, by omega⟩)]
    exact a _ j c1 c2 c3 c4 c5
  · rw [au_a q]
    exact a x j c1 c2 c3 c4 c5
/-- the brackets that are open: where their text begins, how often it is read again -/
def Sk (V : TV) (h : HI) : List (Nat × Nat) → Prop
  | [] => True
  | e :: r => Sk V h r ∧ (∃ p, p ≤ V.2.2.2 ∧ h (za 39) r.length = nI p ∧ t_it V.1 V.2.1 p = e.1) ∧ h (za 40) r.length = nI e.2 ∧ e.2 < 5
theorem Sk.cg {V : TV} {h h1 : HI} : ∀ (l : List (Nat × Nat)) (n : Nat), l.length ≤ n → (∀ k, k < n → h1 (za 39) k = h (za 39) k ∧ h1 (za 40) k = h (za 40) k) → Sk V h l → Sk V h1 l
  | [], _, _, _, _ => trivial
  | e :: r, n, hn, hk, ⟨a, b, c, d⟩ => by
    have hr : r.length < n := hn
    exact ⟨Sk.cg r n (by omega) hk a, by rw [(hk _ hr).1]; exact b, by rw [(hk _ hr).2]; exact c, d⟩
def CL (V : TV) (h : HI) (s : Nat) (w : Wd) (sim : Nat) (beg ex : Bool) (stk : List (Nat × Nat)) : Prop := CB V h s w sim beg ∧ h (za 34) 6 = b2 ex ∧ h (za 34) 8 = 0 ∧ h (za 34) 4 = nI stk.length ∧ stk.length ≤ 3 ∧ Sk V h stk
def xl_ (V : TV) (beg : Bool) (stk : List (Nat × Nat)) (S : Option HI) (h : HI) : XR (Nat × Wd × Nat) → Prop
  | Sum.inl (c, p) => ∃ h1, S = some h1 ∧ XE V h1 c p ∧ fl_ h h1
  | Sum.inr (s, w, sim) => ∃ h1, S = some h1 ∧ CL V h1 s w sim beg false stk ∧ fl_ h h1
section EV
variable {V : TV} {h h0 : HI} {s sim : Nat} {w : Wd} {beg ex : Bool} {stk : List (Nat × Nat)}
/-- another cell of the reader's -/
theorem CB.u34 {k : Nat} {v : Int32} (hk : k ≠ 5 ∧ k ≠ 7 ∧ k ≠ 9 ∧ k ≠ 10) (H : CB V h s w sim beg) : CB V (am_u h (za 34) k v) s w sim beg := by
  obtain ⟨T, ⟨p, hp, e4, e⟩, hw, h5, h7, h9, h10⟩ := H
  exact ⟨T.cg (au_a (fun q => by cases q)) (fun _ => au_a (fun q => by cases q)) (fun _ => au_a (fun q => by cases q)), ⟨p, hp, (au_a (fun q => by cases q)).trans e4, e⟩, (V_f (fun j k => au_a (fun q => by cases q))).trans hw, (au_k (by omega)).trans h5, (au_k (by omega)).trans h7, (au_k (by omega)).trans h9, (au_k (by omega)).trans h10⟩
theorem CL.after {h1 hb : HI} {s1 sim1 : Nat} {w1 : Wd} {beg1 : Bool} (H : CL V h s w sim beg ex stk) (e6 : hb (za 34) 6 = 0) (e8 : hb (za 34) 8 = h (za 34) 8) (e4 : hb (za 34) 4 = h (za 34) 4) (e39 : ∀ k, hb (za 39) k = h (za 39) k) (e40 : ∀ k, hb (za 40) k = h (za 40) k) (f : fe_ hb h1) (H1 : CB V h1 s1 w1 sim1 beg1) : CL V h1 s1 w1 sim1 beg1 false stk := by
  obtain ⟨-, a6, a8, a4, al, ak⟩ := H
  have z : ∀ k, ¬ (k = 5 ∨ k = 7 ∨ k = 9 ∨ k = 10) → h1 (za 34) k = hb (za 34) k := fun k hk => f _ _ (fun j q => by cases q) (fun q => by cases q.1) (fun q => hk q.2)
  refine ⟨H1, (z 6 (by omega)).trans e6, ((z 8 (by omega)).trans e8).trans a8, ((z 4 (by omega)).trans e4).trans a4, al, ak.cg stk _ (Nat.le_refl _) (fun k hk => ⟨(f _ _ (fun j q => by cases q) (fun q => by cases q.1) (fun q => by cases q.1)).trans (e39 k), (f _ _ (fun j q => by cases q) (fun q => by cases q.1) (fun q => by cases q.1)).trans (e40 k)⟩)⟩
theorem xl_of {hb : HI} {beg1 : Bool} {S : Option HI} {r : XR (Nat × Wd × Nat)} (H : CL V h s w sim beg ex stk) (fb : fl_ h hb) (e6 : hb (za 34) 6 = 0) (e8 : hb (za 34) 8 = h (za 34) 8) (e4 : hb (za 34) 4 = h (za 34) 4) (e39 : ∀ k, hb (za 39) k = h (za 39) k) (e40 : ∀ k, hb (za 40) k = h (za 40) k) (g : xr_ V beg1 S hb r) : xl_ V beg1 stk S h r := by
  cases r with
  | inl e =>
    obtain ⟨h1, a, b, c⟩ := g
    exact ⟨h1, a, b, fb.trans (fl_.of c)⟩
  | inr e =>
    obtain ⟨h1, a, b, c⟩ := g
    exact ⟨h1, a, H.after e6 e8 e4 e39 e40 c b, fb.trans (fl_.of c)⟩
theorem xr_bs {S : Option HI} {r : XR (Nat × Wd × Nat)} (g : xr_ V beg S h0 r) : xr_ V beg (S.bind fun h1 => some h1) h0 r := by
  cases r with
  | inl e => obtain ⟨h1, a, b, c⟩ := g; exact ⟨h1, by rw [a]; rfl, b, c⟩
  | inr e => obtain ⟨h1, a, b, c⟩ := g; exact ⟨h1, by rw [a]; rfl, b, c⟩
theorem xl_fail {c : Nat} {c32 : Int32} (H : CL V h s w sim beg ex stk) {beg1 : Bool} (e : c32 = nI c) (hc : 1 ≤ c ∧ c ≤ 4) : xl_ V beg1 stk ((sh_X4_fail c32 h).bind fun h1 => some h1) h (Sum.inl (c, s)) := by
  obtain ⟨h1, e1, x1, f1⟩ := C_failT hc H.1
  rw [e, e1]
  exact ⟨h1, rfl, x1, fl_.of f1⟩
theorem pass_0 {G : Nat} (hG : 0 < G) (h : HI) : sh_X8_passMinutes G 1 (0 : Int32) h = some h := by
  obtain ⟨F, rfl⟩ : ∃ F, G = F + 1 := ⟨G - 1, by omega⟩
  show sh_X8_passMinutes_2_b (F + 1) 1 (0 : Int32) (sh_X8_passMinutes_2 (F + 1) 1 (0 : Int32) F) (0 : Int32) h = some h
  unfold sh_X8_passMinutes_2_b
  rw [if_pos (Int32.le_refl _)]
theorem am_set_iff (q : Fin 37) : (nI (am_set.getD q.val 0) ≠ 0 ↔ 1 ≤ q.val ∧ q.val ≤ 13) ∧ (nI (am_evt.getD q.val 0) ≠ 0 ↔ q.val = 2 ∨ (14 ≤ q.val ∧ q.val ≤ 23)) := by
  have : ∀ q : Fin 37, (nI (am_set.getD q.val 0) ≠ 0 ↔ 1 ≤ q.val ∧ q.val ≤ 13) ∧ (nI (am_evt.getD q.val 0) ≠ 0 ↔ q.val = 2 ∨ (14 ≤ q.val ∧ q.val ≤ 23)) := by decide +kernel
  exact this q
theorem xr_set50 {G : Nat} (hG : 501 < G) (hn : V.2.1 ≤ 500) (h2 : 2 ≤ s) (hs : st_ w) (hti : ti_ w) (f0 : fe_ h0 h) (H : CB V h s w sim beg) (hq : 1 ≤ (sgV V s).val ∧ (sgV V s).val ≤ 13) (h12 : sgV V s = 12 → nn w 24 < 4) (hb : am_u h0 (za 34) 6 (0 : Int32) = h0) (hh : h = h0) : xr_ V beg (sh_X4_readSetting_50 G V.2.2.1 (sgV V s) h) h0 (x_set V s w sim) := by
  subst hh
  unfold sh_X4_readSetting_50
  rw [hb]
  obtain ⟨h3, e3, H3, f3⟩ := C_goOn H
  rw [e3, bs]
  have hn2 := nxV_le (V := V) H.le
  have h22 : 2 ≤ nxV V s := by omega
  unfold x_set
  have hc : (sgV V s).val = 1 ∨ (sgV V s).val = 2 ∨ (sgV V s).val = 3 ∨ (sgV V s).val = 4 ∨ (sgV V s).val = 5 ∨ (sgV V s).val = 6 ∨ (sgV V s).val = 7 ∨ (sgV V s).val = 8 ∨ (sgV V s).val = 9 ∨ (sgV V s).val = 10 ∨ (sgV V s).val = 11 ∨ (sgV V s).val = 12 ∨ (sgV V s).val = 13 := by omega
  rcases hc with q | q | q | q | q | q | q | q | q | q | q | q | q
  · have q : sgV V s = 1 := Fin.ext q
    rw [q, if_pos (by decide), if_pos rfl]
    exact xr_nset (k := 2) (j := 1) (m := 6) (lo := 1) (hi := 20) (by decide) rfl (by decide) (by decide) (by decide) f3 H3
  · have q : sgV V s = 2 := Fin.ext q
    rw [q, if_neg (by decide), if_pos (by decide), if_neg (by decide), if_pos rfl]
    exact xr_nset (k := 3) (j := 0) (m := 8) (lo := 1) (hi := 5) (by decide) rfl (by decide) (by decide) (by decide) f3 H3
  · have q : sgV V s = 3 := Fin.ext q
    rw [q, if_neg (by decide), if_neg (by decide), if_pos (by decide), if_neg (by decide), if_neg (by decide), if_pos rfl]
    exact xr_nset (k := 4) (j := 1) (m := 7) (lo := 1) (hi := 99) (by decide) rfl (by decide) (by decide) (by decide) f3 H3
  · have q : sgV V s = 4 := Fin.ext q
    rw [q, if_neg (by decide), if_neg (by decide), if_neg (by decide), if_pos (by decide), if_neg (by decide), if_neg (by decide), if_neg (by decide), if_pos rfl]
    exact xr_nset (k := 5) (j := 1) (m := 8) (lo := 0) (hi := 9) (by decide) rfl (by decide) (by decide) (by decide) f3 H3
  · have q : sgV V s = 5 := Fin.ext q
    rw [q, if_neg (by decide), if_neg (by decide), if_neg (by decide), if_neg (by decide), if_pos (by decide), if_neg (by decide), if_neg (by decide), if_neg (by decide), if_neg (by decide), if_pos rfl]
    exact xr_nset (k := 20) (j := 1) (m := 9) (lo := 0) (hi := 99) (by decide) rfl (by decide) (by decide) (by decide) f3 H3
  · have q : sgV V s = 6 := Fin.ext q
    rw [q, if_neg (by decide), if_neg (by decide), if_neg (by decide), if_neg (by decide), if_neg (by decide), if_pos (by decide), if_neg (by decide), if_neg (by decide), if_neg (by decide), if_neg (by decide), if_neg (by decide), if_pos rfl]
    exact xr_nset (k := 21) (j := 1) (m := 10) (lo := 0) (hi := 20) (by decide) rfl (by decide) (by decide) (by decide) f3 H3
  · have q : sgV V s = 7 := Fin.ext q
    rw [q, if_neg (by decide), if_neg (by decide), if_neg (by decide), if_neg (by decide), if_neg (by decide), if_neg (by decide), if_pos (by decide), if_neg (by decide), if_neg (by decide), if_neg (by decide), if_neg (by decide), if_neg (by decide), if_neg (by decide), if_pos rfl]
    exact xr_nset (k := 6) (j := 0) (m := 9) (lo := 0) (hi := 999) (by decide) rfl (by decide) (by decide) (by decide) f3 H3
  · have q : sgV V s = 8 := Fin.ext q
    rw [q, if_neg (by decide), if_neg (by decide), if_neg (by decide), if_neg (by decide), if_neg (by decide), if_neg (by decide), if_neg (by decide), if_pos (by decide), if_neg (by decide), if_neg (by decide), if_neg (by decide), if_neg (by decide), if_neg (by decide), if_neg (by decide), if_neg (by decide), if_pos rfl]
    exact xr_bs (xr_walk hs f3 H3)
  · have q : sgV V s = 9 := Fin.ext q
    rw [q, if_neg (by decide), if_neg (by decide), if_neg (by decide), if_neg (by decide), if_neg (by decide), if_neg (by decide), if_neg (by decide), if_neg (by decide), if_pos (by decide), if_neg (by decide), if_neg (by decide), if_neg (by decide), if_neg (by decide), if_neg (by decide), if_neg (by decide), if_neg (by decide), if_neg (by decide), if_pos rfl]
    exact xr_bs (xr_cat (by omega) hs f3 H3)
  · have q : sgV V s = 10 := Fin.ext q
    rw [q, if_neg (by decide), if_neg (by decide), if_neg (by decide), if_neg (by decide), if_neg (by decide), if_neg (by decide), if_neg (by decide), if_neg (by decide), if_neg (by decide), if_neg (by decide), if_neg (by decide), if_pos (by decide), if_neg (by decide), if_neg (by decide), if_neg (by decide), if_neg (by decide), if_neg (by decide), if_neg (by decide), if_neg (by decide), if_neg (by decide), if_neg (by decide), if_pos rfl]
    exact xr_bs (xr_cur (cl := 1) hG hn h22 hs f3 H3)
  · have q : sgV V s = 11 := Fin.ext q
    rw [q, if_neg (by decide), if_neg (by decide), if_neg (by decide), if_neg (by decide), if_neg (by decide), if_neg (by decide), if_neg (by decide), if_neg (by decide), if_neg (by decide), if_pos (by decide), if_neg (by decide), if_neg (by decide), if_neg (by decide), if_neg (by decide), if_neg (by decide), if_neg (by decide), if_neg (by decide), if_neg (by decide), if_neg (by decide), if_neg (by decide), if_pos rfl]
    exact xr_bs (xr_drau hs f3 H3)
  · have q : sgV V s = 12 := Fin.ext q
    have h4 := h12 q
    rw [q, if_neg (by decide), if_neg (by decide), if_neg (by decide), if_neg (by decide), if_neg (by decide), if_neg (by decide), if_neg (by decide), if_neg (by decide), if_neg (by decide), if_neg (by decide), if_pos (by decide), if_neg (by decide), if_neg (by decide), if_neg (by decide), if_neg (by decide), if_neg (by decide), if_neg (by decide), if_neg (by decide), if_neg (by decide), if_neg (by decide), if_neg (by decide), if_neg (by decide), if_pos rfl]
    rw [if_neg (by omega)]
    exact xr_bs (xr_cloud hs h4 f3 H3)
  · have q : sgV V s = 13 := Fin.ext q
    rw [q, if_neg (by decide), if_neg (by decide), if_neg (by decide), if_neg (by decide), if_neg (by decide), if_neg (by decide), if_neg (by decide), if_neg (by decide), if_neg (by decide), if_neg (by decide), if_neg (by decide), if_neg (by decide), if_neg (by decide), if_neg (by decide), if_neg (by decide), if_neg (by decide), if_neg (by decide), if_neg (by decide), if_neg (by decide), if_neg (by decide), if_neg (by decide), if_neg (by decide), if_neg (by decide), if_neg (by decide)]
    exact xr_bs (xr_items hG hn h22 hs hti f3 H3)
theorem xl_set {G : Nat} (hG : 501 < G) (hn : V.2.1 ≤ 500) (h2 : 2 ≤ s) (hs : st_ w) (hti : ti_ w) (H : CL V h s w sim beg ex stk) : xl_ V beg stk (sh_X4_readSetting G V.2.2.1 h) h (if 1 ≤ (sgV V s).val ∧ (sgV V s).val ≤ 13 then x_set V s w sim else Sum.inl (1, s)) := by
  have hiff := (am_set_iff (sgV V s)).1
  have h24 := hs.2.2.2.2.2.2.2.2.1
  unfold sh_X4_readSetting
  rw [C_sgn H.1, bs]
  by_cases c : 1 ≤ (sgV V s).val ∧ (sgV V s).val ≤ 13
  case neg =>
    rw [if_neg c, if_neg (fun q => c (hiff.mp q))]
    exact xl_fail H rfl (by omega)
  rw [if_pos c, if_pos (hiff.mpr c)]
  have go : (sgV V s = 12 → nn w 24 < 4) → xl_ V beg stk (sh_X4_readSetting_50 G V.2.2.1 (sgV V s) h) h (x_set V s w sim) := fun h12 => by
    have hb : am_u (am_u h (za 34) 6 (0 : Int32)) (za 34) 6 (0 : Int32) = am_u h (za 34) 6 (0 : Int32) := by
      funext a k
      unfold am_u
      by_cases q : k = 6
      · rw [if_pos q]
        by_cases q2 : a = za 34
        · rw [if_pos q2, if_pos q, if_pos q2]
        · rw [if_neg q2]
      · rw [if_neg q]
    have g := xr_set50 (V := V) (h := am_u h (za 34) 6 (0 : Int32)) (h0 := am_u h (za 34) 6 (0 : Int32)) (s := s) (w := w) (sim := sim) (beg := beg) hG hn h2 hs hti (fe_.refl _) (H.1.u34 (by omega)) c h12 hb rfl
    have e : sh_X4_readSetting_50 G V.2.2.1 (sgV V s) (am_u h (za 34) 6 (0 : Int32)) = sh_X4_readSetting_50 G V.2.2.1 (sgV V s) h := by
      unfold sh_X4_readSetting_50
      rw [hb]
    rw [e] at g
    exact xl_of H ((fl_.refl h).u (by omega)) au_ (au_k (by omega)) (au_k (by omega)) (fun _ => au_a (fun q => by cases q)) (fun _ => au_a (fun q => by cases q)) g
  by_cases c12 : sgV V s = 12
  · rw [if_neg (fun q => q c12), vr_24 1 h, H.1.vw, h24.1]
    by_cases c4 : nn w 24 < 4
    · rw [if_pos (show nI (nn w 24) < (4 : Int32) from nI_lt (b := 4) c4 (by omega))]
      exact go (fun _ => c4)
    · rw [if_neg (show ¬ nI (nn w 24) < (4 : Int32) from fun q => c4 ((nI_ltI (b := 4) (by have := h24.2.2; omega) (by omega)).mp q))]
      have e : x_set V s w sim = Sum.inl (4, s) := by
        unfold x_set
        rw [c12, if_neg (by decide), if_neg (by decide), if_neg (by decide), if_neg (by decide), if_neg (by decide), if_neg (by decide), if_neg (by decide), if_neg (by decide), if_neg (by decide), if_neg (by decide), if_neg (by decide), if_pos rfl, if_pos (by have := h24.2.2; omega)]
      rw [e]
      exact xl_fail H rfl (by omega)
  · rw [if_pos c12]
    exact go (fun q => absurd q c12)
/-! events -/
theorem C_startE {G K B : Nat} (hG : 10 < G) (hI : ib_ K B 0 w) (H : CB V h s w sim beg) : ∃ h3, sh_X4_startEvents G h = some h3 ∧ CB V h3 s (if beg = true then w else p_reloc w) sim true ∧ fe_ h h3 := by
  have h7 := H.2.2.2.2.1
  unfold sh_X4_startEvents
  cases beg with
  | true =>
    rw [h7, if_pos (by decide)]
    exact ⟨h, rfl, H, fe_.refl h⟩
  | false =>
    rw [h7, if_neg (by decide)]
    have hc := hI.1.c
    obtain ⟨T, ⟨p, hp, e4, e⟩, hw, h5, -, h9, h10⟩ := H
    have H1 : CB V (am_u h (za 34) 7 (1 : Int32)) s w sim true := ⟨T.cg (au_a (fun q => by cases q)) (fun _ => au_a (fun q => by cases q)) (fun _ => au_a (fun q => by cases q)), ⟨p, hp, (au_a (fun q => by cases q)).trans e4, e⟩, (V_f (fun j k => au_a (fun q => by cases q))).trans hw, (au_k (by omega)).trans h5, au_, (au_k (by omega)).trans h9, (au_k (by omega)).trans h10⟩
    have hv := H1.vw
    obtain ⟨h3, e3, v3, f3⟩ := C_rel (G := G) (i := 1) (hi := am_u h (za 34) 7 (1 : Int32)) hG (by rw [hv]; exact hI.1) (by rw [hv]; exact hI.2.2.2.2.2.1.1) (by rw [hv]; exact hI.2.2.2.2.2.1.2) (by rw [hv]; exact hI.2.2.1.1.2.1.1) (by rw [hv]; have := hI.2.2.1.1.2.1.2; omega) (by rw [hv]; exact hI.2.2.1.1.1)
    rw [e3, bs]
    rw [hv] at v3
    refine ⟨h3, rfl, H1.wd v3 f3, fun a k c1 c2 c3 => ?_⟩
    rw [f3 a k c1]
    by_cases q : a = za 34
    · subst q
      rw [au_k (fun q => c3 ⟨rfl, by omega⟩)]
    · rw [au_a q]
/-- an event's minutes pass behind it -/
def evp (G : Nat) (S : Option (Int32 × HI)) : Option HI := S.bind fun v => sh_X8_passMinutes G 1 v.1 v.2
theorem evp_0 {G : Nat} (hG : 0 < G) {S : Option HI} : evp G (S.bind fun h1 => some ((0 : Int32), h1)) = S := by
  cases S with
  | none => rfl
  | some h1 => exact pass_0 hG h1
theorem xr_mins {G m : Nat} (hG : 500 < G) (hm : m ≤ 300) (hI : IBp sim w) (f0 : fe_ h0 h) (H : CB V h s w sim beg) : xr_ V beg (evp G (sh_X4_takeMinutes (nI m) h)) h0 (x_mins V s w sim m) := by
  have h5 := H.2.2.2.1
  have h2000 := hI.2
  unfold sh_X4_takeMinutes evp x_mins
  rw [if_pos (nI_m1 (by omega)), h5, nI_add]
  by_cases c : 2000 < sim + m
  · rw [if_pos c, if_neg (show ¬ nI (sim + m) ≤ (2000 : Int32) from fun q => by have := (nI_leI (b := 2000) (by omega) (by omega)).mp q; omega)]
    obtain ⟨h1, e1, x1, f1⟩ := C_failT (c := 4) (by omega) H
    rw [show (4 : Int32) = nI 4 from rfl, e1, bs, bs]
    exact ⟨h1, pass_0 (by omega) h1, x1, f0.trans f1⟩
  · rw [if_neg c, if_pos (show nI (sim + m) ≤ (2000 : Int32) from nI_le (b := 2000) (by omega) (by omega))]
    obtain ⟨h1, e1, H1, f1⟩ := C_goOn H
    rw [e1, bs, bs, H1.2.2.2.1, nI_add]
    have H2 : CB V (am_u h1 (za 34) 5 (nI (sim + m))) (nxV V s) w (sim + m) beg := by
      obtain ⟨T, ⟨p, hp, e4, e⟩, hw, -, h7, h9, h10⟩ := H1
      exact ⟨T.cg (au_a (fun q => by cases q)) (fun _ => au_a (fun q => by cases q)) (fun _ => au_a (fun q => by cases q)), ⟨p, hp, (au_a (fun q => by cases q)).trans e4, e⟩, (V_f (fun j k => au_a (fun q => by cases q))).trans hw, au_, (au_k (by omega)).trans h7, (au_k (by omega)).trans h9, (au_k (by omega)).trans h10⟩
    have f2 : fe_ h1 (am_u h1 (za 34) 5 (nI (sim + m))) := fun a k c1 c2 c3 => by
      by_cases q : a = za 34
      · subst q
        rw [au_k (fun q => c3 ⟨rfl, by omega⟩)]
      · rw [au_a q]
    obtain ⟨h3, e3, v3, f3⟩ := C_passN (G := G) (i := 1) (n := m) (K := sim) (B := 5 * sim) (hi := am_u h1 (za 34) 5 (nI (sim + m))) (by omega) (by omega) (by omega) (by omega) (by rw [H2.vw]; exact hI.1)
    rw [H2.vw] at v3
    exact ⟨h3, e3, H2.wd v3 f3, f0.trans (f1.trans (f2.trans (fe_.of f3)))⟩
theorem xr_spillE (hs : st_ w) (f0 : fe_ h0 h) (H : CB V h s w sim beg) : xr_ V beg (sh_X4_readSpill V.2.2.1 h) h0 (x_spill V s w sim) := by
  have h4 := hs.rc
  unfold sh_X4_readSpill x_spill
  rw [C_tilesW hs H, S1_ (by omega)]
  refine xr_num (lo := 0) f0 (by omega) (by omega) H (fun v a1 a2 a3 => ?_) (fun h1 => if_neg (fun q => q rfl))
  show xr_ V beg (if nI v ≠ -1 then if sh_X8_hasRoomForBowl 1 (nI v) h ≠ 0 then (sh_X6_goOn h).bind fun h3 => (sh_X4_takeNumber V.2.2.1 (1 : Int32) (99 : Int32) h3).bind fun v4 => if v4.1 = (-1 : Int32) then some v4.2 else (some (sh_put (wa 1 12) 80 (nI v) v4.1 v4.2)).bind fun h5 => some h5 else (sh_X4_fail (3 : Int32) h).bind fun h7 => some h7 else some h) h0 _
  rw [if_pos (nI_m1 (by omega)), C_room (by omega), H.vw, ne_of]
  by_cases c : p_free w v = true
  · rw [if_pos c, if_pos c]
    obtain ⟨h1, e1, H1, f1⟩ := C_goOn H
    rw [e1, bs]
    refine xr_take (lo := 1) (hi := 99) (f0.trans f1) (by omega) (by omega) H1 (fun t h2 b1 b2 b3 H2 f2 => ?_) (fun h2 => ⟨h2, if_pos rfl, fun _ _ x => x, fe_.refl h2⟩)
    show xr_ V beg (if nI t = -1 then some h2 else (some (sh_put (wa 1 12) 80 (nI v) (nI t) h2)).bind fun h5 => some h5) h0 _
    rw [if_neg (nI_m1 (by omega)), bs, put_n (by omega) (by decide)]
    exact xr_ret (H2.wd (by rw [uw_spill (by omega), H2.vw]) (fr_.refl 1 h2).u) (f2.trans fe_u)
  · rw [if_neg c, if_neg c]
    exact xr_fail H f0 rfl (by omega)
theorem xr_carryE (hs : st_ w) (f0 : fe_ h0 h) (H : CB V h s w sim beg) : xr_ V beg (sh_X4_readCarry V.2.2.1 h) h0 (x_carry V s w sim) := by
  have h4 := hs.rc
  unfold sh_X4_readCarry x_carry
  rw [C_tilesW hs H, S1_ (by omega)]
  refine xr_num (lo := 0) f0 (by omega) (by omega) H (fun v a1 a2 a3 => ?_) (fun h1 => if_neg (fun q => q rfl))
  show xr_ V beg (if nI v ≠ -1 then if h (wa 1 0) 12 ≠ (-1 : Int32) then (sh_X6_goOn h).bind fun h3 => some (am_u h3 (wa 1 0) 12 (nI v)) else (sh_X4_fail (3 : Int32) h).bind fun h5 => some h5 else some h) h0 _
  rw [if_pos (nI_m1 (by omega)), vr_16 1 h, H.vw]
  by_cases c : w 16 = -1
  · rw [if_pos c, if_neg (fun q => q c)]
    exact xr_fail H f0 rfl (by omega)
  · rw [if_neg c, if_pos c]
    obtain ⟨h1, e1, H1, f1⟩ := C_goOn H
    rw [e1, bs]
    exact xr_ret (H1.wd (by rw [uw_16, H1.vw]) (fr_.refl 1 h1).u) ((f0.trans f1).trans fe_u)
/-- one event but "repeat" -/
theorem xl_ev {G : Nat} (hG : 501 < G) (hn : V.2.1 ≤ 500) (h2 : 2 ≤ s) (hI : ib_ sim (5 * sim) 0 w) (h2000 : sim ≤ 2000) (H : CL V h s w sim beg ex stk) (hq : (sgV V s).val = 2 ∨ (14 ≤ (sgV V s).val ∧ (sgV V s).val ≤ 22)) : xl_ V true stk (evp G (sh_X4_readEvent_44 G V.2.2.1 (sgV V s) h)) h (x_ev V s (if beg = true then w else p_reloc w) sim) := by
  obtain ⟨h3, e3, H3, f3⟩ := C_startE (G := G) (by omega) hI H.1
  have hI3 : ib_ sim (5 * sim) 0 (if beg = true then w else p_reloc w) := by
    cases beg with
    | true => exact hI
    | false => exact hI.reloc
  generalize (if beg = true then w else p_reloc w) = w3 at H3 hI3 ⊢
  have Hb : CB V (am_u h3 (za 34) 6 (0 : Int32)) s w3 sim true := H3.u34 (by omega)
  generalize hhb : am_u h3 (za 34) 6 (0 : Int32) = hb at Hb
  have z : ∀ a k, (∀ j, a ≠ wa 1 j) → ¬ (a = za 35 ∧ k = 4) → ¬ (a = za 34 ∧ (k = 5 ∨ k = 6 ∨ k = 7 ∨ k = 9 ∨ k = 10)) → hb a k = h a k := fun a k c1 c2 c3 => by
    rw [← hhb]
    have := f3 a k c1 c2 (fun q => c3 ⟨q.1, by omega⟩)
    by_cases q : a = za 34
    · subst q
      rw [au_k (fun q => c3 ⟨rfl, by omega⟩)]; exact this
    · rw [au_a q]; exact this
  have e6 : hb (za 34) 6 = 0 := by rw [← hhb]; exact au_
  refine xl_of (hb := hb) H (fun a k c1 c2 c3 c4 c5 => z a k c1 c2 (fun q => c3 ⟨q.1, by omega⟩)) e6 (z _ _ (fun j q => by cases q) (fun q => by cases q.1) (by omega)) (z _ _ (fun j q => by cases q) (fun q => by cases q.1) (by omega)) (fun k => z _ _ (fun j q => by cases q) (fun q => by cases q.1) (fun q => by cases q.1)) (fun k => z _ _ (fun j q => by cases q) (fun q => by cases q.1) (fun q => by cases q.1)) ?_
  have hs := hI3.1
  have hti := hI3.2.1
  have hn2 := nxV_le (V := V) H.1.le
  have h22 : 2 ≤ nxV V s := by omega
  unfold sh_X4_readEvent_44
  rw [e3, bs, hhb]
  obtain ⟨h5, e5, H5, f5⟩ := C_goOn Hb
  unfold x_ev
  by_cases c22 : sgV V s = 22
  · rw [c22, if_neg (fun q => q rfl), if_neg (by decide), if_neg (by decide), if_neg (by decide), if_neg (by decide), if_neg (by decide), if_neg (by decide), if_neg (by decide), if_pos rfl]
    have hr := hs.r
    have hl := hs.l
    have hb9 : nn w3 0 * nn w3 2 ≤ 8 * 20 := Nat.mul_le_mul hr.2.2 hl.2.2
    have h7 := hI3.2.2.2.2.2.1
    have e : sh_X8_nightLength 1 hb - h3 (wa 1 0) 10 = nI (nn w3 0 * nn w3 2 - nn w3 7) := by
      unfold sh_X8_nightLength
      rw [vr_0 1 hb, vr_2 1 hb, vr_7 1 h3, Hb.vw, H3.vw, hr.1, hl.1, h7.1, pk_mul, nn_of h7.1 (by omega), pk_sub (by omega)]
    rw [e]
    have g := xr_mins (m := nn w3 0 * nn w3 2 - nn w3 7) (G := G) (by omega) (by omega) ⟨hI3, h2000⟩ (fe_.refl hb) Hb
    unfold evp at g ⊢
    have eb : (sh_X4_takeMinutes (nI (nn w3 0 * nn w3 2 - nn w3 7)) hb).bind (fun v21 => some (v21.1, v21.2)) = sh_X4_takeMinutes (nI (nn w3 0 * nn w3 2 - nn w3 7)) hb := by
      cases sh_X4_takeMinutes (nI (nn w3 0 * nn w3 2 - nn w3 7)) hb <;> rfl
    rw [eb]
    exact g
  rw [if_pos c22, e5, bs]
  by_cases c21 : sgV V s = 21
  · rw [c21, if_neg (fun q => q rfl), if_neg (by decide), if_neg (by decide), if_neg (by decide), if_neg (by decide), if_neg (by decide), if_neg (by decide), if_pos rfl]
    have g := C_number (lo := 1) (hi := 300) (by omega) (by omega) H5
    cases e : x_num V (nxV V s) 1 300 with
    | inl cp =>
      obtain ⟨c, p⟩ := cp
      rw [e] at g
      obtain ⟨h6, e6', x6, f6⟩ := g
      unfold evp
      rw [show sh_X4_number V.2.2.1 (1 : Int32) (300 : Int32) h5 = some (-1, h6) from e6', bs]
      unfold sh_X4_takeMinutes
      rw [if_neg (fun q => q rfl), bs, bs]
      exact ⟨h6, pass_0 (by omega) h6, x6, f5.trans f6⟩
    | inr m =>
      rw [e] at g
      obtain ⟨e6', a1, a2, a3⟩ := g
      unfold evp
      rw [show sh_X4_number V.2.2.1 (1 : Int32) (300 : Int32) h5 = some (nI m, h5) from e6', bs]
      have g2 := xr_mins (m := m) (G := G) (by omega) (by omega) ⟨hI3, h2000⟩ f5 H5
      unfold evp at g2
      have eb : (sh_X4_takeMinutes (nI m) h5).bind (fun v20 => some (v20.1, v20.2)) = sh_X4_takeMinutes (nI m) h5 := by
        cases sh_X4_takeMinutes (nI m) h5 <;> rfl
      show xr_ V true (((sh_X4_takeMinutes (nI m) h5).bind fun v20 => some (v20.1, v20.2)).bind _) hb (x_mins V (nxV V s) w3 sim m)
      rw [eb]
      exact g2
  rw [if_pos c21]
  have hc : (sgV V s).val = 2 ∨ (sgV V s).val = 14 ∨ (sgV V s).val = 15 ∨ (sgV V s).val = 16 ∨ (sgV V s).val = 17 ∨ (sgV V s).val = 18 ∨ (sgV V s).val = 19 ∨ (sgV V s).val = 20 := by
    have h21 : (sgV V s).val ≠ 21 := fun q => c21 (Fin.ext q)
    have h22 : (sgV V s).val ≠ 22 := fun q => c22 (Fin.ext q)
    omega
  rcases hc with q | q | q | q | q | q | q | q
  · have q : sgV V s = 2 := Fin.ext q
    rw [q, if_pos (by decide), if_pos rfl]
    have e : evp G ((sh_X4_takeNumber V.2.2.1 (1 : Int32) (5 : Int32) h5).bind fun v18 => some ((0 : Int32), am_u v18.2 (wa 1 0) 8 v18.1)) = (sh_X4_takeNumber V.2.2.1 (nI 1) (nI 5) h5).bind fun v => some (am_u v.2 (wa 1 0) 8 v.1) := by
      unfold evp
      show ((sh_X4_takeNumber V.2.2.1 (nI 1) (nI 5) h5).bind fun v18 => some ((0 : Int32), am_u v18.2 (wa 1 0) 8 v18.1)).bind _ = _
      cases sh_X4_takeNumber V.2.2.1 (nI 1) (nI 5) h5 with
      | none => rfl
      | some v => exact pass_0 (by omega) _
    rw [e]
    exact xr_nset (k := 3) (j := 0) (m := 8) (lo := 1) (hi := 5) (by decide) rfl (by decide) (by decide) (by decide) f5 H5
  · have q : sgV V s = 14 := Fin.ext q
    rw [q, if_neg (by decide), if_neg (by decide), if_neg (by decide), if_neg (by decide), if_neg (by decide), if_neg (by decide), if_neg (by decide), if_neg (by decide), if_neg (by decide), if_neg (by decide), if_neg (by decide), if_neg (by decide), if_neg (by decide), if_neg (by decide), if_neg (by decide)]
    rw [evp_0 (by omega)]
    exact xr_items hG hn h22 hs hti f5 H5
  · have q : sgV V s = 15 := Fin.ext q
    rw [q, if_neg (by decide), if_pos (by decide), if_neg (by decide), if_pos rfl]
    rw [evp_0 (by omega)]
    exact xr_spillE hs f5 H5
  · have q : sgV V s = 16 := Fin.ext q
    rw [q, if_neg (by decide), if_neg (by decide), if_neg (by decide), if_neg (by decide), if_neg (by decide), if_neg (by decide), if_neg (by decide), if_neg (by decide), if_neg (by decide), if_neg (by decide), if_neg (by decide), if_neg (by decide), if_neg (by decide), if_neg (by decide), if_neg (by decide)]
    rw [evp_0 (by omega)]
    exact xr_items hG hn h22 hs hti f5 H5
  · have q : sgV V s = 17 := Fin.ext q
    rw [q, if_neg (by decide), if_neg (by decide), if_pos (by decide)]
    have h10 := hI3.2.2.1.1.2.2.2.1
    have e : evp G (if h5 (wa 1 6) 2 ≠ 0 then some ((0 : Int32), am_u h5 (wa 1 6) 2 (0 : Int32)) else some ((0 : Int32), am_u h5 (wa 1 6) 2 (1 : Int32))) = some (am_u h5 (wa 1 6) 2 (1 - w3 10)) := by
      rw [vr_10 1 h5, H5.vw]
      unfold evp
      rcases in01 h10 with z0 | z0
      · rw [z0, if_neg (by decide), bs]; exact pass_0 (by omega) _
      · rw [z0, if_pos (by decide), bs]; exact pass_0 (by omega) _
    rw [e, if_neg (by decide), if_neg (by decide), if_pos rfl]
    exact xr_ret (H5.wd (by rw [uw_10, H5.vw]) (fr_.refl 1 h5).u) (f5.trans fe_u)
  · have q : sgV V s = 18 := Fin.ext q
    rw [q, if_neg (by decide), if_neg (by decide), if_neg (by decide), if_pos (by decide), if_neg (by decide), if_neg (by decide), if_neg (by decide), if_pos rfl]
    rw [evp_0 (by omega)]
    exact xr_cur (cl := 0) hG hn h22 hs f5 H5
  · have q : sgV V s = 19 := Fin.ext q
    rw [q, if_neg (by decide), if_neg (by decide), if_neg (by decide), if_neg (by decide), if_pos (by decide), if_neg (by decide), if_neg (by decide), if_neg (by decide), if_neg (by decide), if_pos rfl]
    rw [evp_0 (by omega)]
    exact xr_cur (cl := 1) hG hn h22 hs f5 H5
  · have q : sgV V s = 20 := Fin.ext q
    rw [q, if_neg (by decide), if_neg (by decide), if_neg (by decide), if_neg (by decide), if_neg (by decide), if_pos (by decide), if_neg (by decide), if_neg (by decide), if_neg (by decide), if_neg (by decide), if_neg (by decide), if_pos rfl]
    rw [evp_0 (by omega)]
    exact xr_carryE hs f5 H5
end EV
