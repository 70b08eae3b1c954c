/-! the text as a whole -/
def txt (f : Nat → Nat) (rg : Bool) (rt : Nat → Nat) (R : Nat) (cl dg : Nat → Nat) (c a kc : Nat) (ru : Nat → Nat) (T sp row tm : Nat) : List Nat := tx0 f rg ++ txR rt R 0 ++ txC cl dg c 0 ++ txK a kc ++ txG ru T 0 ++ txE sp row tm
/-- what the text's numbers are -/
def txok (f : Nat → Nat) (rt : Nat → Nat) (R : Nat) (cl dg : Nat → Nat) (r c a kc : Nat) (ru : Nat → Nat) (sp row tm : Nat) : Prop := (2 ≤ r ∧ r ≤ 3 ∧ 2 ≤ c ∧ c ≤ 5) ∧ (f 0 = r ∧ f 1 = c ∧ (1 ≤ f 2 ∧ f 2 ≤ 4) ∧ (1 ≤ f 3 ∧ f 3 ≤ 4) ∧ (1 ≤ f 4 ∧ f 4 ≤ 8) ∧ f 5 ≤ 3 ∧ f 6 ≤ 7 ∧ f 7 ≤ 3 ∧ (10 ≤ f 8 ∧ f 8 ≤ 41) ∧ f 11 < c ∧ f 19 < r * c) ∧ (R < 8 ∧ ∀ j, j < R → rt j < 5) ∧ ((∀ j, cl j < 2) ∧ ∀ j, dg j = 0 ∨ (2 ≤ dg j ∧ dg j ≤ 5)) ∧ (kc ≤ 1 ∧ a ≤ 3) ∧ ((∀ t, ru t < 2) ∧ cnt (fun t => nI (ru t)) (r * c) ≤ 2) ∧ (sp < r * c ∧ row < r ∧ 1 ≤ tm ∧ tm ≤ 2)
theorem txG_l {ru : Nat → Nat} (h : ∀ t, ru t < 2) : ∀ q t, t + q < 100 → (txG ru q t).length + 7 * cnt (fun t => nI (ru t)) t ≤ 7 * cnt (fun t => nI (ru t)) (t + q)
  | 0, t, _ => by
    rw [Nat.add_zero]
    show 0 + _ ≤ _
    omega
  | q + 1, t, ht => by
    have ih := txG_l h q (t + 1) (by omega)
    have e : cnt (fun t => nI (ru t)) (t + 1) = cnt (fun t => nI (ru t)) t + (if nI (ru t) = 0 then 0 else 1) := rfl
    have hd := dec_l t
    have hs : (Sw 55).length = 5 := rfl
    rw [show t + (q + 1) = t + 1 + q by omega]
    show ((if ru t = 0 then [] else Sw 55 ++ dec t) ++ txG ru q (t + 1)).length + _ ≤ _
    rw [List.length_append]
    by_cases q0 : ru t = 0
    · rw [if_pos q0]
      rw [e, if_pos (by rw [q0]; rfl)] at ih
      show 0 + _ + _ ≤ _
      omega
    · rw [if_neg q0, List.length_append]
      rw [e, if_neg (nI_ne0 (by omega) (by have := h t; omega))] at ih
      omega
theorem txR_l {rt : Nat → Nat} : ∀ q j, (txR rt q j).length ≤ 7 * q
  | 0, _ => Nat.le_refl _
  | q + 1, j => by
    have ih := txR_l (rt := rt) q (j + 1)
    show (Sw (mvw (rt j)) ++ txR rt q (j + 1)).length ≤ _
    have hw : (Sw (mvw (rt j))).length ≤ 7 := by
      unfold mvw
      split
      · decide
      · split
        · decide
        · split
          · decide
          · split <;> decide
    rw [List.length_append]
    omega
theorem txC_l {cl dg : Nat → Nat} : ∀ q j, (txC cl dg q j).length ≤ 25 * q
  | 0, _ => Nat.le_refl _
  | q + 1, j => by
    have ih := txC_l (cl := cl) (dg := dg) q (j + 1)
    show ((if cl j = 0 then [] else Sw 52 ++ dec j) ++ ((if dg j = 0 then [] else Sw 53 ++ dec j ++ [32] ++ dec (dg j)) ++ txC cl dg q (j + 1))).length ≤ _
    have hd1 := dec_l j
    have hd2 := dec_l (dg j)
    have h2 : (Sw 52).length = 9 := rfl
    have h3 : (Sw 53).length = 9 := rfl
    have a1 : (if cl j = 0 then [] else Sw 52 ++ dec j).length ≤ 11 := by
      split
      · exact Nat.zero_le _
      · rw [List.length_append]; omega
    have a2 : (if dg j = 0 then [] else Sw 53 ++ dec j ++ [32] ++ dec (dg j)).length ≤ 14 := by
      split
      · exact Nat.zero_le _
      · simp only [List.length_append, List.length_cons, List.length_nil]; omega
    rw [List.length_append, List.length_append]
    omega
theorem txK_l {a : Nat} : ∀ kc, (txK a kc).length ≤ 12
  | 0 => Nat.zero_le _
  | _ + 1 => by
    show (Sw 54 ++ dec a ++ [32] ++ dec (a + 1)).length ≤ 12
    have hd1 := dec_l a
    have hd2 := dec_l (a + 1)
    have h2 : (Sw 54).length = 7 := rfl
    simp only [List.length_append, List.length_cons, List.length_nil]; omega
section TXT
variable {n ro R r c G kc : Nat} {h : HI} {x : AX} {P : Nat × HI × AX → Prop} {a2 : Int32}
theorem nvb {y : Int32} {p q : Nat} (e : ∃ m, p ≤ m ∧ m ≤ q ∧ y = nI m) (hq : q < 2 ^ 31) : y = nI (nv y) ∧ p ≤ nv y ∧ nv y ≤ q := by
  obtain ⟨m, m1, m2, rfl⟩ := e
  rw [nv_n (by omega)]
  exact ⟨rfl, m1, m2⟩
theorem K_text (hG : 500 < G) (H : FLR ro R r c n kc h x) (nx : ∀ s h' x' f rg rt cl dg a ru sp row tm, txok f rt R cl dg r c a kc ru sp row tm → ST n s (txt f rg rt R cl dg c a kc ru (r * c) sp row tm) h' x' → Z_ h' x' → FNu r c R h' → FrV n 200 h x h' x' → P (s, h', x')) : Gd (sl_L_text G 1 a2 h x) P := by
  obtain ⟨I, hnd, hn, hro, hro2, hkc, Hn, Hc, Hg, Hr, Hk⟩ := H
  have hcc := I.1.1
  have hT := I.1.tc
  obtain ⟨⟨q2, q2a, q2b, e2⟩, ⟨q3, q3a, q3b, e3⟩, ⟨q4, q4a, q4b, e4⟩, ⟨q5, q5b, e5⟩, ⟨q6, q6b, e6⟩, ⟨q7, q7b, e7⟩, ⟨q8, q8a, q8b, e8⟩, ⟨q11, q11b, e11⟩, e21⟩ := Hn
  obtain ⟨q19, q19b, e19⟩ := I.1.2.2.2.2.2.2.1
  have e0 := I.1.2.1
  have e1 := I.1.2.2.1
  -- the views
  have fv : ∀ {k m}, h (da 12 1) k = nI m → m < 100 → nv (h (da 12 1) k) = m := fun {k m} e hm => by rw [e, nv_n (by omega)]
  generalize hf : (fun k => nv (h (da 12 1) k)) = f
  have g0 : f 0 = r := by rw [← hf]; exact fv e0 (by omega)
  have g1 : f 1 = c := by rw [← hf]; exact fv e1 (by omega)
  have g2 : f 2 = q2 := by rw [← hf]; exact fv e2 (by omega)
  have g3 : f 3 = q3 := by rw [← hf]; exact fv e3 (by omega)
  have g4 : f 4 = q4 := by rw [← hf]; exact fv e4 (by omega)
  have g5 : f 5 = q5 := by rw [← hf]; exact fv e5 (by omega)
  have g6 : f 6 = q6 := by rw [← hf]; exact fv e6 (by omega)
  have g7 : f 7 = q7 := by rw [← hf]; exact fv e7 (by omega)
  have g8 : f 8 = q8 := by rw [← hf]; exact fv e8 (by omega)
  have g11 : f 11 = q11 := by rw [← hf]; exact fv e11 (by omega)
  have g19 : f 19 = q19 := by rw [← hf]; exact fv e19 (by omega)
  have hrt : ∀ j, j < R → h (da 100 ro) j = nI (nv (h (da 100 ro) j)) ∧ nv (h (da 100 ro) j) < 5 := fun j hj => by
    obtain ⟨q, q1, q2⟩ := Hr j hj
    rw [q2, nv_n (by omega)]
    exact ⟨rfl, q1⟩
  have hcl : ∀ j, h (da 102 5) j = nI (nv (h (da 102 5) j)) ∧ nv (h (da 102 5) j) < 2 := fun j => by
    rcases Hc.1 j with q | q <;> rw [q] <;> decide
  have hdg : ∀ j, h (da 100 6) j = nI (nv (h (da 100 6) j)) ∧ (nv (h (da 100 6) j) = 0 ∨ (2 ≤ nv (h (da 100 6) j) ∧ nv (h (da 100 6) j) ≤ 5)) := fun j => by
    obtain ⟨q, q1, q2⟩ := Hc.2 j
    rw [q2, nv_n (by omega)]
    exact ⟨rfl, q1⟩
  have hru : ∀ t, h (da 102 8) t = nI (nv (h (da 102 8) t)) ∧ nv (h (da 102 8) t) < 2 := fun t => by
    rcases Hg.1 t with q | q <;> rw [q] <;> decide
  have hcn : cnt (fun t => nI (nv (h (da 102 8) t))) (r * c) ≤ 2 := by
    have e : (fun t => nI (nv (h (da 102 8) t))) = h (da 102 8) := funext fun t => (hru t).1.symm
    rw [e]
    exact Hg.2
  have hK : ∃ a e p, a ≤ 3 ∧ (0 < kc → rdx x (da 2 3) 1 = dr 104 e ∧ rdx x (da 104 e) 0 = dr 100 p ∧ 1 ≤ lnx x e ∧ lnx x e < 2 ^ 31 ∧ e < n ∧ p < n ∧ lnx x p = 2 ∧ h (da 100 p) 0 = nI a ∧ h (da 100 p) 1 = nI (a + 1) ∧ a ≤ 3) := by
    by_cases k0 : kc = 0
    · exact ⟨0, 0, 0, by omega, fun q => by omega⟩
    · obtain ⟨e, p, a, a1, a2, a3, a4, a5, a6, a7⟩ := Hk (by omega)
      obtain ⟨e', b1, b2, b3, b4, b5, b6⟩ := I.2.2.1.2 (by omega)
      obtain ⟨p', c1, c2, c3⟩ := b6 0 (by omega)
      rw [a1] at b1
      injection b1 with b1
      have ee := (da_i b1).2
      subst ee
      rw [a2] at c1
      injection c1 with c1
      have ep := (da_i c1).2
      subst ep
      exact ⟨a, e, p, a3, fun _ => ⟨a1, a2, by omega, b3, b4, c3, c2, a4, a5, a3⟩⟩
  obtain ⟨a, e, p, ha, hK⟩ := hK
  have ok : ∀ sp row tm, sp < r * c → row < r → 1 ≤ tm → tm ≤ 2 → txok f (fun j => nv (h (da 100 ro) j)) R (fun j => nv (h (da 102 5) j)) (fun j => nv (h (da 100 6) j)) r c a kc (fun t => nv (h (da 102 8) t)) sp row tm := fun sp row tm s1 s2 s3 s4 => ⟨hcc, ⟨g0, g1, by omega, by omega, by omega, by omega, by omega, by omega, by omega, by omega, by omega⟩, ⟨I.2.1.1.2.2, fun j hj => (hrt j hj).2⟩, ⟨fun j => (hcl j).2, fun j => (hdg j).2⟩, ⟨hkc, ha⟩, ⟨fun t => (hru t).2, hcn⟩, ⟨s1, s2, s3, s4⟩⟩
  have w37 : (Sw 37).length = 6 := rfl
  have w38 : (Sw 38).length = 7 := rfl
  have w39 : (Sw 39).length = 6 := rfl
  have w40 : (Sw 40).length = 8 := rfl
  have w41 : (Sw 41).length = 6 := rfl
  have w42 : (Sw 42).length = 9 := rfl
  have w43 : (Sw 43).length = 7 := rfl
  have w44 : (Sw 44).length = 7 := rfl
  have w45 : (Sw 45).length = 8 := rfl
  have w46 : (Sw 46).length = 6 := rfl
  have w47 : (Sw 47).length = 5 := rfl
  have w48 : (Sw 48).length = 5 := rfl
  have dl : ∀ m, (dec m).length ≤ 2 := dec_l
  -- what lies behind the first settings
  have rest : ∀ rg k h1 x1, k ≤ 30 → TXs n n (tx0 f rg) k h x h1 x1 → Gd (sl_L_text_160 G 1 a2 G n 0 h1 x1) P := fun rg k h1 x1 hk t => by
    have l0 : (tx0 f rg).length ≤ 102 := by
      have := dl (f 0); have := dl (f 1); have := dl (f 2); have := dl (f 3); have := dl (f 4); have := dl (f 5); have := dl (f 6); have := dl (f 7); have := dl (f 8); have := dl (f 11); have := dl (f 19)
      unfold tx0
      cases rg
      · simp only [List.length_append, List.length_cons, List.length_nil]
        show _ + (Sw 47).length + _ + _ ≤ _
        omega
      · simp only [List.length_append, List.length_cons, List.length_nil]
        show _ + (Sw 46).length + _ + _ ≤ _
        omega
    have lR := txR_l (rt := fun j => nv (h (da 100 ro) j)) R 0
    have lC := txC_l (cl := fun j => nv (h (da 102 5) j)) (dg := fun j => nv (h (da 100 6) j)) c 0
    have lK := txK_l (a := a) kc
    have lG := txG_l (ru := fun t => nv (h (da 102 8) t)) (fun t => (hru t).2) (r * c) 0 (by omega)
    rw [Nat.zero_add] at lG
    have hR8 := I.2.1.1.2.2
    refine K_txR (rt := fun j => nv (h (da 100 ro) j)) hn hro hR8 I.2.1.1.1 I.2.1.1.2.1 hrt (tx0 f rg) k (fun k h1 x1 hk1 t1 => ?_) R G 0 _ k h1 x1 (by omega) (by omega) rfl (by omega) (by omega) t
    refine K_txC (by omega) hn hcc.2.2 e1 I.2.1.2.1 I.2.1.2.2.1 hcl (fun j => ⟨(hdg j).1, by have := (hdg j).2; omega⟩) _ k (fun k h1 x1 hk2 t2 => ?_) c G 0 _ k h1 x1 (by omega) (by omega) rfl (by simp only [List.length_append]; omega) (by omega) t1
    refine K_txK (by omega) hn hkc I.2.1.2.2.2.2.2.2.2.1 I.2.2.1.1 hK (by omega) (by simp only [List.length_append]; omega) t2 (fun k h1 x1 hk3 t3 => ?_)
    refine K_txG hG I hn hro (by omega) hru _ k (by simp only [List.length_append]; omega) (fun s h1 x1 sp row tm s1 s2 s3 s4 st z N9 f9 => ?_) (r * c) G 0 _ k h1 x1 (by omega) (by omega) rfl (by omega) t3
    exact gd_ret (nx s h1 x1 f rg _ _ _ a _ sp row tm (ok sp row tm s1 s2 s3 s4) st z N9 (f9.mono (by omega)))
  unfold sl_L_text
  refine K_sb0 hnd.symm I.2.2.2.2.1 (fun h1 x1 t1 => ?_)
  rw [← hnd]
  have hG3 : 3 ≤ G := by omega
  have h1n : 1 < n := by omega
  have d0 := dl (f 0)
  have d1 := dl (f 1)
  have d2 := dl (f 2)
  have d3 := dl (f 3)
  have d4 := dl (f 4)
  have d5 := dl (f 5)
  have d6 := dl (f 6)
  have d7 := dl (f 7)
  have d8 := dl (f 8)
  have d11 := dl (f 11)
  have d19 := dl (f 19)
  refine gd_A hG3 t1 (m := f 0) (by rw [t1.hh h1n, e0, g0]) (by omega) (by omega) (fun h1 x1 t2 => ?_)
  refine gd_C t2 (c := 32) rfl (by omega) (by simp only [List.length_append]; omega) (fun h1 x1 t3 => ?_)
  refine gd_A hG3 t3 (m := f 1) (by rw [t3.hh h1n, e1, g1]) (by omega) (by simp only [List.length_append, List.length_cons, List.length_nil]; omega) (fun h1 x1 t4 => ?_)
  refine gd_S t4 (w := 38) (by omega) (by simp only [List.length_append, List.length_cons, List.length_nil]; omega) (fun h1 x1 t5 => ?_)
  refine gd_A hG3 t5 (m := f 2) (by rw [t5.hh h1n, e2, g2]) (by omega) (by simp only [List.length_append, List.length_cons, List.length_nil]; omega) (fun h1 x1 t6 => ?_)
  refine gd_S t6 (w := 39) (by omega) (by simp only [List.length_append, List.length_cons, List.length_nil]; omega) (fun h1 x1 t7 => ?_)
  refine gd_A hG3 t7 (m := f 3) (by rw [t7.hh h1n, e3, g3]) (by omega) (by simp only [List.length_append, List.length_cons, List.length_nil]; omega) (fun h1 x1 t8 => ?_)
  refine gd_S t8 (w := 40) (by omega) (by simp only [List.length_append, List.length_cons, List.length_nil]; omega) (fun h1 x1 t9 => ?_)
  refine gd_A hG3 t9 (m := f 4) (by rw [t9.hh h1n, e4, g4]) (by omega) (by simp only [List.length_append, List.length_cons, List.length_nil]; omega) (fun h1 x1 t10 => ?_)
  refine gd_S t10 (w := 41) (by omega) (by simp only [List.length_append, List.length_cons, List.length_nil]; omega) (fun h1 x1 t11 => ?_)
  refine gd_A hG3 t11 (m := f 5) (by rw [t11.hh h1n, e5, g5]) (by omega) (by simp only [List.length_append, List.length_cons, List.length_nil]; omega) (fun h1 x1 t12 => ?_)
  refine gd_S t12 (w := 42) (by omega) (by simp only [List.length_append, List.length_cons, List.length_nil]; omega) (fun h1 x1 t13 => ?_)
  refine gd_A hG3 t13 (m := f 6) (by rw [t13.hh h1n, e6, g6]) (by omega) (by simp only [List.length_append, List.length_cons, List.length_nil]; omega) (fun h1 x1 t14 => ?_)
  refine gd_S t14 (w := 43) (by omega) (by simp only [List.length_append, List.length_cons, List.length_nil]; omega) (fun h1 x1 t15 => ?_)
  refine gd_A hG3 t15 (m := f 7) (by rw [t15.hh h1n, e7, g7]) (by omega) (by simp only [List.length_append, List.length_cons, List.length_nil]; omega) (fun h1 x1 t16 => ?_)
  refine gd_S t16 (w := 44) (by omega) (by simp only [List.length_append, List.length_cons, List.length_nil]; omega) (fun h1 x1 t17 => ?_)
  refine gd_A hG3 t17 (m := f 8) (by rw [t17.hh h1n, e8, g8]) (by omega) (by simp only [List.length_append, List.length_cons, List.length_nil]; omega) (fun h1 x1 t18 => ?_)
  refine gd_S t18 (w := 45) (by omega) (by simp only [List.length_append, List.length_cons, List.length_nil]; omega) (fun h1 x1 t19 => ?_)
  refine gd_A hG3 t19 (m := f 11) (by rw [t19.hh h1n, e11, g11]) (by omega) (by simp only [List.length_append, List.length_cons, List.length_nil]; omega) (fun h1 x1 t20 => ?_)
  rw [t20.hh h1n]
  refine gd_I (fun _ => ?_) (fun _ => ?_)
  · refine gd_S t20 (w := 47) (by omega) (by simp only [List.length_append, List.length_cons, List.length_nil]; omega) (fun h1 x1 u1 => ?_)
    refine gd_S u1 (w := 48) (by omega) (by simp only [List.length_append, List.length_cons, List.length_nil]; omega) (fun h1 x1 u2 => ?_)
    refine gd_A hG3 u2 (m := f 19) (by rw [u2.hh h1n, e19, g19]) (by omega) (by simp only [List.length_append, List.length_cons, List.length_nil]; omega) (fun h1 x1 u3 => ?_)
    exact rest false _ h1 x1 (by omega) u3
  · refine gd_S t20 (w := 46) (by omega) (by simp only [List.length_append, List.length_cons, List.length_nil]; omega) (fun h1 x1 u1 => ?_)
    refine gd_S u1 (w := 48) (by omega) (by simp only [List.length_append, List.length_cons, List.length_nil]; omega) (fun h1 x1 u2 => ?_)
    refine gd_A hG3 u2 (m := f 19) (by rw [u2.hh h1n, e19, g19]) (by omega) (by simp only [List.length_append, List.length_cons, List.length_nil]; omega) (fun h1 x1 u3 => ?_)
    exact rest true _ h1 x1 (by omega) u3
end TXT
