/-! the text, to its end -/
section TXE
variable {n b ro R r c G kc k n2 : Nat} {h0 h h1 : HI} {x0 x x1 : AX} {L : List Nat} {P : Nat × HI × AX → Prop} {a2 : Int32}
theorem FrV.low (a : FrV n2 k h x h1 x1) (q : n ≤ n2) : FrV n k h x h1 x1 := ⟨fun c j p => a.1 c j (lo_m p q), fun c j p => a.2.1 c j (lo_m p q), fun i p => a.2.2.1 i (by omega), a.2.2.2⟩
/-- the builder's cells are below m -/
def SBl (m b : Nat) (x : AX) : Prop := b < m ∧ ∀ v, rdx x (da 1 b) 0 = dr 101 v → v < m
theorem SB.l (S : SB n b L h x) : SBl (ndx x) b x := by
  obtain ⟨v, ⟨s1, -⟩, -, -, -, ⟨-, s9⟩, ⟨-, s11⟩, -⟩ := S
  refine ⟨s11, fun u e => ?_⟩
  rw [s1] at e
  injection e with e
  rw [← (da_i e).2]; exact s9
theorem SB.cgV (S : SB n b L h x) (hn : 11 ≤ n) (f : FrV n2 k h x h1 x1) (e : SBl n2 b x) : SB n b L h1 x1 ∧ SBl n2 b x1 := by
  obtain ⟨v, ⟨s1, s2, s3⟩, ⟨s4, s5⟩, s6, s7, ⟨s8, s9⟩, ⟨s10, s11⟩, s12⟩ := S
  have hv := e.2 v s1
  have hb := e.1
  have lb : fl_o (da 1 b) := fun K i q => by have := (da_i q).2; omega
  have lv : fl_o (da 101 v) := fun K i q => by have := (da_i q).2; omega
  have nd := f.2.2.2.1
  have r1 : rdx x1 (da 1 b) 0 = rdx x (da 1 b) 0 := f.2.1 _ _ (lo_d (by omega)) (fun K i q => by have := (da_i q).2; omega)
  exact ⟨⟨v, ⟨r1.trans s1, (f.1 _ _ (lo_d (by omega)) lb).trans s2, (f.1 _ _ (lo_d (by omega)) lb).trans s3⟩, ⟨by rw [f.2.2.1 v (by omega)]; exact s4, by rw [f.2.2.1 v (by omega)]; exact s5⟩, fun i hi => (f.1 _ _ (lo_d (by omega)) lv).trans (s6 i hi), fun j => by rw [f.1 _ _ (lo_d (by omega)) lv]; exact s7 j, ⟨s8, by omega⟩, ⟨s10, by omega⟩, s12⟩, hb, fun u q => e.2 u (r1.symm.trans q)⟩
theorem INV.tx (I : INV ro R r c n kc 0 h0 x0) (hn : 11 ≤ n) (hro : ro < n) (t : TXs n b L k h0 x0 h x) : INV ro R r c n kc 0 h x := by
  obtain ⟨N, F, C, S, Z, nd⟩ := I
  have f := FrV.ofN t.2.2
  exact ⟨N.o (fun j _ => t.hh (by omega)), F.cg f hn hro, C.cg f hn, ⟨⟨(t.hh (by omega)).trans S.1.1, fun q => by omega⟩, fun q => (t.r (by omega)).trans (S.2.1 q), fun q => by omega⟩, t.2.1, Nat.le_trans nd t.2.2.2.2.2.1⟩
/-- the builder and the floor -/
def TXv (ro R r c n kc b : Nat) (L : List Nat) (k : Nat) (h0 : HI) (x0 : AX) (h : HI) (x : AX) : Prop := SB n b L h x ∧ INV ro R r c n kc 0 h x ∧ FrV n k h0 x0 h x ∧ 11 ≤ n ∧ ro < n
theorem TXv.of (I : INV ro R r c n kc 0 h0 x0) (hn : 11 ≤ n) (hro : ro < n) (t : TXs n b L k h0 x0 h x) : TXv ro R r c n kc b L k h0 x0 h x := ⟨t.1, I.tx hn hro t, FrV.ofN t.2.2, hn, hro⟩
theorem TXv.s (t : TXv ro R r c n kc b L k h0 x0 h x) : TXs n b L 0 h x h x := ⟨t.1, t.2.1.2.2.2.2.1, FrN.refl⟩
theorem TXv.up {L2 : List Nat} {k2 : Nat} (t : TXv ro R r c n kc b L k h0 x0 h x) (u : TXs n b L2 k2 h x h1 x1) : TXv ro R r c n kc b L2 (k + k2) h0 x0 h1 x1 := ⟨u.1, t.2.1.tx t.2.2.2.1 t.2.2.2.2 u, t.2.2.1.trans (FrV.ofN u.2.2), t.2.2.2⟩
theorem TXv.fg (t : TXv ro R r c n kc b L k h0 x0 h x) (g : FG r c R h h1) : TXv ro R r c n kc b L k h0 x0 h1 x := by
  obtain ⟨s, ⟨N, F, C, S, Z, nd⟩, f, hn, hro⟩ := t
  have f1 : FrV (ndx x) 0 h x h1 x := FrV.of1 g.2
  exact ⟨(s.cgV hn f1 s.l).1, ⟨g.1, F, C.cg (f1.low nd) hn, g.rs S, g.2.Z Z (by omega), nd⟩, f.trans (FrV.of1 g.2), hn, hro⟩
theorem gv_S {w : Nat} {T : Nat → HI → AX → Option (Nat × HI × AX)} (t : TXv ro R r c n kc b L k h0 x0 h x) (hw : w < 60) (hL : L.length + (Sw w).length ≤ 400) (nx : ∀ h x, TXv ro R r c n kc b (L ++ Sw w) (k + 1) h0 x0 h x → Gd (T b h x) P) : Gd (cB3 (sl_J4_append_15ec4 b w h x) T) P := gd_S t.s hw hL (fun h x u => nx h x (t.up u))
theorem gv_A {m : Nat} {v : Int32} {T : Nat → HI → AX → Option (Nat × HI × AX)} (hG : 3 ≤ G) (t : TXv ro R r c n kc b L k h0 x0 h x) (e : v = nI m) (hm : m < 100) (hL : L.length + 2 ≤ 400) (nx : ∀ h x, TXv ro R r c n kc b (L ++ dec m) (k + 1) h0 x0 h x → Gd (T b h x) P) : Gd (cB3 (sl_J4_append_bf812 G b v h x) T) P := gd_A hG t.s e hm hL (fun h x u => nx h x (t.up u))
/-- the minutes by hand; then the String -/
theorem K_tx542 (hG : 500 < G) {tm : Nat} (htm : tm ≤ 2) (hn : 11 ≤ n) (hro : ro < n) (hkc : kc < 100) (hL : L.length ≤ 400) (hnn : n ≤ n2) {k0 : Nat} (nx : ∀ s h x, ST n s L h x → Z_ h x → FNu r c R h → FrV n (k0 + 10) h0 x0 h x → Gd (some (s, h, x)) P) : ∀ q F j k kk h x, j + q = tm → q < F → k + 2 * q ≤ 4 → kk + 4 * q ≤ k0 + 8 → SB n b L h x → SBl n2 b x → INV ro R r c n2 kc k h x → FrV n kk h0 x0 h x → Gd (sl_L_text_542 G 1 a2 F b (nI tm) (nI j) h x) P := fun q => by
  induction q with
  | zero =>
    intro F j k kk h x hj hF hk hkk S Sl I f
    obtain ⟨F, rfl⟩ : ∃ g, F = g + 1 := ⟨F - 1, by omega⟩
    show Gd (sl_L_text_542_b G 1 a2 (sl_L_text_542 G 1 a2 F) b (nI tm) (nI j) h x) P
    unfold sl_L_text_542_b
    rw [if_pos (nI_le (by omega) (by omega))]
    obtain ⟨s, h1, x1, e, st, z, f1⟩ := K_toS hL I.2.2.2.2.1 S
    rw [e, cB3_]
    exact nx s h1 x1 st z (I.1.o (fun j _ => f1.1 _ _ (lo_d (by omega)))) ((f.trans (FrV.ofN f1)).mono (by omega))
  | succ q ih =>
    intro F j k kk h x hj hF hk hkk S Sl I f
    obtain ⟨F, rfl⟩ : ∃ g, F = g + 1 := ⟨F - 1, by omega⟩
    show Gd (sl_L_text_542_b G 1 a2 (sl_L_text_542 G 1 a2 F) b (nI tm) (nI j) h x) P
    unfold sl_L_text_542_b
    rw [if_neg (nI_ge (show j < tm by omega) (by omega))]
    have h562 : ∀ t : Int32, (t = 0 ∨ t = 1) → Gd (sl_L_text_562 G 1 a2 (sl_L_text_542 G 1 a2 F) b (nI tm) (nI j) t 1 h x) P := fun t ht => by
      unfold sl_L_text_562
      refine gd_G ht (gd_H (fun h2 e2 => ?_))
      obtain ⟨N, FF, C, RR, Z, hnd⟩ := id I
      have g2 : FG r c R h h2 := by rw [e2]; exact (FG.refl N).f (by omega)
      have v2 : FrV n2 0 h x h2 x := FrV.of1 g2.2
      have I2 : INV ro R r c n2 kc k h2 x := ⟨g2.1, FF, C.cg v2 (by omega), g2.rs RR, g2.2.Z Z (by omega), hnd⟩
      obtain ⟨S2, Sl2⟩ := S.cgV hn v2 Sl
      refine gd_3 (K_advance (by omega) (by omega) (by omega) hkc (by omega) I2) (fun v h3 x3 q3 => ?_)
      obtain ⟨⟨k', hk', I3⟩, v3⟩ := q3
      obtain ⟨S3, Sl3⟩ := S2.cgV hn v3 Sl2
      rw [nI_1]
      exact ih F (j + 1) k' (kk + 0 + 4) h3 x3 (by omega) (by omega) (by omega) (by omega) S3 Sl3 I3 ((f.trans (v2.low hnn)).trans (v3.low hnn))
    exact gd_I (fun _ => h562 0 (Or.inl rfl)) (fun _ => h562 1 (Or.inr rfl))
theorem INV.up (I : INV ro R r c n kc 0 h x) (hq : n ≤ n2) (h2 : n2 ≤ ndx x) : INV ro R r c n2 kc 0 h x := by
  obtain ⟨N, F, C, S, Z, nd⟩ := I
  refine ⟨N, F, ⟨C.1, fun q => ?_⟩, ⟨S.1, S.2.1, fun q => by omega⟩, Z, h2⟩
  obtain ⟨e, e1, e2, e3, e4, e5, e6⟩ := C.2 q
  exact ⟨e, e1, e2, e3, by omega, e5, fun j hj => by
    obtain ⟨p, p1, p2, p3⟩ := e6 j hj
    exact ⟨p, p1, p2, by omega⟩⟩
/-- bowls; the last words -/
theorem K_tx468 (hG : 500 < G) {sp row tm : Nat} (hrow : row < r) (hsp : sp < r * c) (htm : 1 + ((a2.toUInt32 >>> ((6 : Int32).toUInt32 &&& Int32.toUInt32 31)).toInt32 &&& (1 : Int32)) = nI tm) (htm2 : tm ≤ 2) (hkc : kc < 100) (hL : L.length + 30 ≤ 400) (nx : ∀ s h x, ST n s (L ++ Sw 58 ++ dec tm ++ Sw 59) h x → Z_ h x → FNu r c R h → FrV n (k + 13) h0 x0 h x → Gd (some (s, h, x)) P) : ∀ q F j h x, j + q = c → q < F → TXv ro R r c n kc b L k h0 x0 h x → Gd (sl_L_text_468 G 1 a2 F b (nI row) (nI sp) (nI j) h x) P := fun q => by
  induction q with
  | zero =>
    intro F j h x hj hF t
    obtain ⟨F, rfl⟩ : ∃ g, F = g + 1 := ⟨F - 1, by omega⟩
    show Gd (sl_L_text_468_b G 1 a2 (sl_L_text_468 G 1 a2 F) b (nI row) (nI sp) (nI j) h x) P
    unfold sl_L_text_468_b
    have N := t.2.1.1
    have hcc := N.1
    rw [N.2.2.1, if_pos (nI_le (by omega) (by omega)), htm]
    have hd := dec_l tm
    refine gv_S t (by omega) (by have : (Sw 58).length = 8 := rfl
                                 omega) (fun h x t2 => ?_)
    refine gv_A (by omega) t2 rfl (by omega) (by simp only [List.length_append]; have : (Sw 58).length = 8 := rfl
                                                 omega) (fun h x t3 => ?_)
    refine gv_S t3 (by omega) (by simp only [List.length_append]; have : (Sw 58).length = 8 := rfl
                                  have : (Sw 59).length = 17 := rfl
                                  omega) (fun h x t4 => ?_)
    have hl4 : (L ++ Sw 58 ++ dec tm ++ Sw 59).length ≤ 400 := by
      simp only [List.length_append]
      have : (Sw 58).length = 8 := rfl
      have : (Sw 59).length = 17 := rfl
      omega
    have nd := t4.2.1.2.2.2.2.2
    exact K_tx542 (n2 := ndx x) (k0 := k + 3) hG htm2 t4.2.2.2.1 t4.2.2.2.2 hkc hl4 nd nx tm G 0 0 (k + 1 + 1 + 1) h x (by omega) (by omega) (by omega) (by omega) t4.1 t4.1.l (t4.2.1.up nd (Nat.le_refl _)) t4.2.2.1
  | succ q ih =>
    intro F j h x hj hF t
    obtain ⟨F, rfl⟩ : ∃ g, F = g + 1 := ⟨F - 1, by omega⟩
    show Gd (sl_L_text_468_b G 1 a2 (sl_L_text_468 G 1 a2 F) b (nI row) (nI sp) (nI j) h x) P
    unfold sl_L_text_468_b
    obtain ⟨N, FF, -⟩ := id t.2.1
    have hcc := N.1
    have hT := N.tc
    have hj2 : j < c := by omega
    have hrc : row * c + j < r * c := by
      have : (row + 1) * c ≤ r * c := Nat.mul_le_mul_right c hrow
      rw [Nat.add_mul] at this
      omega
    rw [N.2.2.1, if_neg (nI_ge hj2 (by omega)), pk_mul, nI_add, nI_1]
    refine gd_I (fun _ => ih F (j + 1) h x (by omega) (by omega) t) (fun _ => gd_D FF.2.2.2.1.1 (gd_j rfl FF.2.2.2.1.2 hrc (by omega) (gd_H (fun h2 e2 => ?_))))
    exact ih F (j + 1) h2 x (by omega) (by omega) (t.fg (by rw [e2]; exact (FG.refl N).a (by omega)))
/-- rugs; then the first walker, the spill -/
theorem K_txG {ru : Nat → Nat} (hG : 500 < G) (I0 : INV ro R r c n kc 0 h0 x0) (hn : 11 ≤ n) (hro : ro < n) (hkc : kc < 100) (hru : ∀ t, h0 (da 102 8) t = nI (ru t) ∧ ru t < 2) (L0 : List Nat) (k0 : Nat) (hlen : (L0 ++ txG ru (r * c) 0).length ≤ 345) (nx : ∀ s h x sp row tm, sp < r * c → row < r → 1 ≤ tm → tm ≤ 2 → ST n s (L0 ++ txG ru (r * c) 0 ++ txE sp row tm) h x → Z_ h x → FNu r c R h → FrV n (k0 + 60) h0 x0 h x → Gd (some (s, h, x)) P) : ∀ q F t L k h x, t + q = r * c → q < F → L ++ txG ru q t = L0 ++ txG ru (r * c) 0 → k + 2 * q ≤ k0 + 2 * (r * c) → TXs n b L k h0 x0 h x → Gd (sl_L_text_376 G 1 a2 F b (nI t) h x) P := fun q => by
  have hT := I0.1.tc
  have hcc := I0.1.1
  induction q with
  | zero =>
    intro F t L k h x ht hF hL hk u
    obtain ⟨F, rfl⟩ : ∃ g, F = g + 1 := ⟨F - 1, by omega⟩
    show Gd (sl_L_text_376_b G 1 a2 (sl_L_text_376 G 1 a2 F) b (nI t) h x) P
    unfold sl_L_text_376_b
    have e : L = L0 ++ txG ru (r * c) 0 := by rw [← hL]; exact (List.append_nil L).symm
    have v := TXv.of I0 hn hro u
    obtain ⟨N, FF, C, -⟩ := id v.2.1
    rw [K_tiles N.2.1 N.2.2.1, cB3_, if_pos (nI_le (by omega) (by omega))]
    refine gd_2 (K_relocate (by omega) FF N C.ls hkc) (fun h1 y q1 => ?_)
    obtain ⟨q1, g1⟩ := q1
    have q1 : y = x := q1
    subst q1
    have g1 : FG r c R h h1 := g1
    have v1 := v.fg g1
    have N1 := v1.2.1.1
    obtain ⟨y3, hy3, ey3⟩ := an3 a2
    obtain ⟨yf, hyf, eyf⟩ := an15 (a2.toUInt32 >>> ((2 : Int32).toUInt32 &&& Int32.toUInt32 31)).toInt32
    obtain ⟨ym, hym, eym⟩ := an1 (a2.toUInt32 >>> ((6 : Int32).toUInt32 &&& Int32.toUInt32 31)).toInt32
    rw [ey3, eyf, K_tiles N1.2.1 N1.2.2.1, cB3_, N1.2.1, pk_rem (by omega) (by omega) (by omega), pk_rem (by omega) (by omega) (by omega)]
    refine gd_N (nI_ne0 (by omega) (by omega)) (gd_N (nI_ne0 (by omega) (by omega)) ?_)
    have hsp := Nat.mod_lt yf (show 0 < r * c by omega)
    have hrow := Nat.mod_lt y3 (show 0 < r by omega)
    have hl0 : L.length ≤ 345 := by rw [e]; exact hlen
    have hd1 := dec_l (yf % (r * c))
    have hd2 := dec_l (y3 % r)
    have w56 : (Sw 56).length = 7 := rfl
    have w57 : (Sw 57).length = 12 := rfl
    refine gv_S v1 (by omega) (by omega) (fun h x v2 => ?_)
    refine gv_A (by omega) v2 rfl (by omega) (by simp only [List.length_append]; omega) (fun h x v3 => ?_)
    refine gv_S v3 (by omega) (by simp only [List.length_append]; omega) (fun h x v4 => ?_)
    refine gv_A (by omega) v4 rfl (by omega) (by simp only [List.length_append]; omega) (fun h x v5 => ?_)
    have F9 := v5.2.1.2.1.2.2.2.2.2.1
    refine gd_D F9.1 (gd_j rfl F9.2 hsp (by omega) (gd_H (fun h2 e2 => ?_)))
    have v6 := v5.fg (by rw [e2]; exact (FG.refl v5.2.1.1).a (i := 9) (by omega) : FG r c R h h2)
    refine K_tx468 (tm := 1 + ym) hG hrow hsp (by rw [eym]; exact nI_add 1 ym) (by omega) hkc (by simp only [List.length_append]; omega) (fun s h x st z N9 f9 => ?_) c G 0 h2 x (by omega) (by omega) v6
    refine nx s h x (yf % (r * c)) (y3 % r) (1 + ym) hsp hrow (by omega) (by omega) ?_ z N9 (f9.mono (by omega))
    have el : L0 ++ txG ru (r * c) 0 ++ txE (yf % (r * c)) (y3 % r) (1 + ym) = L ++ Sw 56 ++ dec (yf % (r * c)) ++ Sw 57 ++ dec (y3 % r) ++ Sw 58 ++ dec (1 + ym) ++ Sw 59 := by
      rw [← e]
      unfold txE
      simp only [List.append_assoc]
    rw [el]
    exact st
  | succ q ih =>
    intro F t L k h x ht hF hL hk u
    obtain ⟨F, rfl⟩ : ∃ g, F = g + 1 := ⟨F - 1, by omega⟩
    show Gd (sl_L_text_376_b G 1 a2 (sl_L_text_376 G 1 a2 F) b (nI t) h x) P
    unfold sl_L_text_376_b
    have h2 : t < r * c := by omega
    have F8 := I0.2.1.2.2.2.2.1
    rw [K_tiles ((u.hh (by omega)).trans I0.1.2.1) ((u.hh (by omega)).trans I0.1.2.2.1), cB3_, if_neg (nI_ge h2 (by omega)), nI_1]
    refine gd_D ((u.r (by omega)).trans F8.1) (gd_j rfl ((u.l (by omega)).trans F8.2) h2 (by omega) ?_)
    obtain ⟨r1, r2⟩ := hru t
    have er : h (da 102 8) (nI t).toNatClampNeg = nI (ru t) := by rw [nI_clamp (by omega), u.hh (by omega), r1]
    rw [er]
    have hL : L ++ ((if ru t = 0 then [] else Sw 55 ++ dec t) ++ txG ru q (t + 1)) = L0 ++ txG ru (r * c) 0 := hL
    by_cases q0 : ru t = 0
    · rw [q0, if_pos (by decide)]
      rw [if_pos q0, List.nil_append] at hL
      exact ih F (t + 1) L k h x (by omega) (by omega) hL (by omega) u
    · rw [if_neg (nI_ne0 (by omega) (by omega))]
      rw [if_neg q0] at hL
      have hd := dec_l t
      have hs : (Sw 55).length = 5 := rfl
      have hll : L.length + ((Sw 55).length + (dec t).length) ≤ 345 := by
        rw [← hL] at hlen
        simp only [List.length_append] at hlen
        omega
      refine gd_S u (by omega) (by omega) (fun h x u2 => ?_)
      refine gd_A (by omega) u2 rfl (by omega) (by simp only [List.length_append]; omega) (fun h x u3 => ?_)
      exact ih F (t + 1) _ _ h x (by omega) (by omega) (by rw [← hL]; simp only [List.append_assoc]) (by omega) u3
end TXE
