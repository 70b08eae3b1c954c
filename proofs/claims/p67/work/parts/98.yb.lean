/-! the text's loops -/
section TXL
variable {n b ro R r c G sp row : Nat} {h0 : HI} {x0 : AX} {P : Nat × HI × AX → Prop} {a2 : Int32}
/-- the route -/
theorem K_txR {rt : Nat → Nat} (hn : 11 ≤ n) (hro : ro < n) (hR : R < 8) (f22 : rdx x0 (da 12 1) 22 = dr 100 ro) (fl : lnx x0 ro = R) (hr : ∀ j, j < R → h0 (da 100 ro) j = nI (rt j) ∧ rt j < 5) (L0 : List Nat) (k0 : Nat) (nx : ∀ k h x, k ≤ k0 + R → TXs n b (L0 ++ txR rt R 0) k h0 x0 h x → Gd (sl_L_text_243 G 1 a2 G b 0 h x) P) : ∀ q F j L k h x, j + q = R → q < F → L ++ txR rt q j = L0 ++ txR rt R 0 → L.length + 7 * q ≤ 400 → k + q ≤ k0 + R → TXs n b L k h0 x0 h x → Gd (sl_L_text_160 G 1 a2 F b (nI j) h x) P := fun q => by
  induction q with
  | zero =>
    intro F j L k h x hj hF hL hlen hk t
    obtain ⟨F, rfl⟩ : ∃ g, F = g + 1 := ⟨F - 1, by omega⟩
    show Gd (sl_L_text_160_b G 1 a2 (sl_L_text_160 G 1 a2 F) b (nI j) h x) P
    unfold sl_L_text_160_b
    refine gd_D ((t.r (by omega)).trans f22) ?_
    rw [t.l hro, fl, if_pos (nI_le (by omega) (by omega))]
    have e : L = L0 ++ txR rt R 0 := by rw [← hL]; exact (List.append_nil L).symm
    exact nx k h x (by omega) (e ▸ t)
  | succ q ih =>
    intro F j L k h x hj hF hL hlen hk t
    obtain ⟨F, rfl⟩ : ∃ g, F = g + 1 := ⟨F - 1, by omega⟩
    show Gd (sl_L_text_160_b G 1 a2 (sl_L_text_160 G 1 a2 F) b (nI j) h x) P
    unfold sl_L_text_160_b
    have r22 : rdx x (da 12 1) 22 = dr 100 ro := (t.r (by omega)).trans f22
    have lro : lnx x ro = R := (t.l hro).trans fl
    obtain ⟨hv, h5⟩ := hr j (by omega)
    have ev : h (da 100 ro) (nI j).toNatClampNeg = nI (rt j) := by rw [nI_clamp (by omega), t.hh hro, hv]
    have nxt : ∀ h x, TXs n b (L ++ Sw (mvw (rt j))) (k + 1) h0 x0 h x → Gd (sl_L_text_160 G 1 a2 F b (nI j + 1) h x) P := fun h x t2 => by
      rw [nI_1]
      have hw : (Sw (mvw (rt j))).length ≤ 7 := by
        have : rt j = 0 ∨ rt j = 1 ∨ rt j = 2 ∨ rt j = 3 ∨ rt j = 4 := by omega
        rcases this with e | e | e | e | e <;> rw [e] <;> decide
      exact ih F (j + 1) _ (k + 1) h x (by omega) (by omega) (by rw [List.append_assoc]; exact hL) (by rw [List.length_append]; omega) (by omega) t2
    refine gd_D r22 ?_
    rw [lro, if_neg (nI_ge (show j < R by omega) (by omega))]
    refine gd_D r22 (gd_j rfl lro (show j < R by omega) (by omega) ?_)
    have hm : rt j = 0 ∨ rt j = 1 ∨ rt j = 2 ∨ rt j = 3 ∨ rt j = 4 := by omega
    rcases hm with hm | hm | hm | hm | hm
    · rw [hm] at ev
      have emv : mvw (rt j) = 49 := by rw [hm]; rfl
      rw [emv] at nxt
      rw [ev, if_neg (by decide)]
      exact gd_S t (by omega) (by have : (Sw 49).length ≤ 7 := by decide
                                  omega) nxt
    · rw [hm] at ev
      have emv : mvw (rt j) = 50 := by rw [hm]; rfl
      rw [emv] at nxt
      rw [ev, if_pos (by decide)]
      refine gd_D r22 (gd_j rfl lro (by omega) (by omega) ?_)
      rw [ev, if_neg (by decide)]
      exact gd_S t (by omega) (by have : (Sw 50).length ≤ 7 := by decide
                                  omega) nxt
    · rw [hm] at ev
      have emv : mvw (rt j) = 51 := by rw [hm]; rfl
      rw [emv] at nxt
      rw [ev, if_pos (by decide)]
      refine gd_D r22 (gd_j rfl lro (by omega) (by omega) ?_)
      rw [ev, if_pos (by decide)]
      refine gd_D r22 (gd_j rfl lro (by omega) (by omega) ?_)
      rw [ev, if_neg (by decide)]
      exact gd_S t (by omega) (by have : (Sw 51).length ≤ 7 := by decide
                                  omega) nxt
    · rw [hm] at ev
      have emv : mvw (rt j) = 47 := by rw [hm]; rfl
      rw [emv] at nxt
      rw [ev, if_pos (by decide)]
      refine gd_D r22 (gd_j rfl lro (by omega) (by omega) ?_)
      rw [ev, if_pos (by decide)]
      refine gd_D r22 (gd_j rfl lro (by omega) (by omega) ?_)
      rw [ev, if_pos (by decide)]
      refine gd_D r22 (gd_j rfl lro (by omega) (by omega) ?_)
      rw [ev, if_neg (by decide)]
      exact gd_S t (by omega) (by have : (Sw 47).length ≤ 7 := by decide
                                  omega) nxt
    · rw [hm] at ev
      have emv : mvw (rt j) = 46 := by rw [hm]; rfl
      rw [emv] at nxt
      rw [ev, if_pos (by decide)]
      refine gd_D r22 (gd_j rfl lro (by omega) (by omega) ?_)
      rw [ev, if_pos (by decide)]
      refine gd_D r22 (gd_j rfl lro (by omega) (by omega) ?_)
      rw [ev, if_pos (by decide)]
      refine gd_D r22 (gd_j rfl lro (by omega) (by omega) ?_)
      rw [ev, if_pos (by decide)]
      exact gd_S t (by omega) (by have : (Sw 46).length ≤ 7 := by decide
                                  omega) nxt
/-- curtains and draughts -/
theorem K_txC {cl dg : Nat → Nat} (hG : 3 ≤ G) (hn : 11 ≤ n) (hc : 2 ≤ c ∧ c ≤ 5) (f1 : h0 (da 12 1) 1 = nI c) (f5 : rdx x0 (da 12 1) 23 = dr 102 5 ∧ lnx x0 5 = c) (f6 : rdx x0 (da 12 1) 26 = dr 100 6 ∧ lnx x0 6 = c) (hcl : ∀ j, h0 (da 102 5) j = nI (cl j) ∧ cl j < 2) (hdr : ∀ j, h0 (da 100 6) j = nI (dg j) ∧ dg j < 6) (L0 : List Nat) (k0 : Nat) (nx : ∀ k h x, k ≤ k0 + 6 * c → TXs n b (L0 ++ txC cl dg c 0) k h0 x0 h x → Gd (sl_L_text_313 G 1 a2 G b 0 h x) P) : ∀ q F j L k h x, j + q = c → q < F → L ++ txC cl dg q j = L0 ++ txC cl dg c 0 → L.length + 25 * q ≤ 400 → k + 6 * q ≤ k0 + 6 * c → TXs n b L k h0 x0 h x → Gd (sl_L_text_243 G 1 a2 F b (nI j) h x) P := fun q => by
  induction q with
  | zero =>
    intro F j L k h x hj hF hL hlen hk t
    obtain ⟨F, rfl⟩ : ∃ g, F = g + 1 := ⟨F - 1, by omega⟩
    show Gd (sl_L_text_243_b G 1 a2 (sl_L_text_243 G 1 a2 F) b (nI j) h x) P
    unfold sl_L_text_243_b
    rw [t.hh (show 1 < n by omega), f1, if_pos (nI_le (by omega) (by omega))]
    have e : L = L0 ++ txC cl dg c 0 := by rw [← hL]; exact (List.append_nil L).symm
    exact nx k h x (by omega) (e ▸ t)
  | succ q ih =>
    intro F j L k h x hj hF hL hlen hk t
    obtain ⟨F, rfl⟩ : ∃ g, F = g + 1 := ⟨F - 1, by omega⟩
    show Gd (sl_L_text_243_b G 1 a2 (sl_L_text_243 G 1 a2 F) b (nI j) h x) P
    unfold sl_L_text_243_b
    have hj2 : j < c := by omega
    obtain ⟨c1, c2⟩ := hcl j
    obtain ⟨d1, d2⟩ := hdr j
    have h271 : ∀ L1 k1 h x, L1 ++ ((if dg j = 0 then [] else Sw 53 ++ dec j ++ [32] ++ dec (dg j)) ++ txC cl dg q (j + 1)) = L0 ++ txC cl dg c 0 → L1.length + 14 + 25 * q ≤ 400 → k1 + 4 + 6 * q ≤ k0 + 6 * c → TXs n b L1 k1 h0 x0 h x → Gd (sl_L_text_271 G 1 a2 (sl_L_text_243 G 1 a2 F) b (nI j) h x) P := fun L1 k1 h x hL1 hl1 hk1 t1 => by
      unfold sl_L_text_271
      have ed : h (da 100 6) (nI j).toNatClampNeg = nI (dg j) := by rw [nI_clamp (by omega), t1.hh (by omega), d1]
      refine gd_D ((t1.r (by omega)).trans f6.1) (gd_j rfl ((t1.l (by omega)).trans f6.2) hj2 (by omega) ?_)
      rw [ed]
      by_cases q0 : dg j = 0
      · rw [q0, if_pos (by decide), nI_1]
        rw [if_pos q0, List.nil_append] at hL1
        exact ih F (j + 1) L1 k1 h x (by omega) (by omega) hL1 (by omega) (by omega) t1
      · rw [if_neg (nI_nle (by omega) (by omega))]
        rw [if_neg q0] at hL1
        have hd1 := dec_l j
        have hd2 := dec_l (dg j)
        have hs : (Sw 53).length = 9 := rfl
        refine gd_S t1 (by omega) (by omega) (fun h x t2 => ?_)
        refine gd_A hG t2 rfl (by omega) (by rw [List.length_append]; omega) (fun h x t3 => ?_)
        refine gd_C t3 (c := 32) rfl (by omega) (by rw [List.length_append, List.length_append]; omega) (fun h x t4 => ?_)
        refine gd_D ((t4.r (by omega)).trans f6.1) (gd_j rfl ((t4.l (by omega)).trans f6.2) hj2 (by omega) ?_)
        refine gd_A hG t4 (m := dg j) (by rw [nI_clamp (by omega), t4.hh (by omega), d1]) (by omega) (by simp only [List.length_append, List.length_cons, List.length_nil]; omega) (fun h x t5 => ?_)
        rw [nI_1]
        refine ih F (j + 1) _ _ h x (by omega) (by omega) ?_ ?_ ?_ t5
        · rw [← hL1]
          simp only [List.append_assoc]
        · simp only [List.length_append, List.length_cons, List.length_nil]; omega
        · omega
    rw [t.hh (show 1 < n by omega), f1, if_neg (nI_ge hj2 (by omega))]
    refine gd_D ((t.r (by omega)).trans f5.1) (gd_j rfl ((t.l (by omega)).trans f5.2) hj2 (by omega) ?_)
    have ec : h (da 102 5) (nI j).toNatClampNeg = nI (cl j) := by rw [nI_clamp (by omega), t.hh (by omega), c1]
    rw [ec]
    have hL : L ++ ((if cl j = 0 then [] else Sw 52 ++ dec j) ++ ((if dg j = 0 then [] else Sw 53 ++ dec j ++ [32] ++ dec (dg j)) ++ txC cl dg q (j + 1))) = L0 ++ txC cl dg c 0 := hL
    by_cases q0 : cl j = 0
    · rw [q0, if_pos (by decide)]
      rw [if_pos q0, List.nil_append] at hL
      exact h271 L k h x hL (by omega) (by omega) t
    · rw [if_neg (nI_ne0 (by omega) (by omega))]
      rw [if_neg q0] at hL
      have hd1 := dec_l j
      have hs : (Sw 52).length = 9 := rfl
      refine gd_S t (by omega) (by omega) (fun h x t2 => ?_)
      refine gd_A hG t2 rfl (by omega) (by rw [List.length_append]; omega) (fun h x t3 => ?_)
      refine h271 _ _ h x ?_ ?_ (by omega) t3
      · rw [← hL]
        simp only [List.append_assoc]
      · simp only [List.length_append]; omega
theorem K_get0 {l e p : Nat} {h : HI} {x : AX} (s1 : h (da 2 l) 2 = nI 1) (r1 : rdx x (da 2 l) 1 = dr 104 e) (r2 : rdx x (da 104 e) 0 = dr 100 p) (le : 1 ≤ lnx x e) (le2 : lnx x e < 2 ^ 31) : sl_Jx4a65c_get_915e3 l (nI 0) h x = some (p, h, x) := by
  unfold sl_Jx4a65c_get_915e3 sl_J15_checkIndex_7cf53 sl_J3_checkIndex_8e157 sl_Jx4a65c_elementData_915e3
  rw [s1, if_neg (by decide), if_pos (by decide), cB3_, cB3_, r1, cD_, gi_ (by omega) le2, nI_clamp (by omega), r2, cD_, cB3_]
/-- the cloud -/
theorem K_txK {kc a e p : Nat} (hG : 3 ≤ G) (hn : 11 ≤ n) (hkc : kc ≤ 1) (f29 : rdx x0 (da 12 1) 29 = dr 2 3) (s1 : h0 (da 2 3) 2 = nI kc) (hk : 0 < kc → rdx x0 (da 2 3) 1 = dr 104 e ∧ rdx x0 (da 104 e) 0 = dr 100 p ∧ 1 ≤ lnx x0 e ∧ lnx x0 e < 2 ^ 31 ∧ e < n ∧ p < n ∧ lnx x0 p = 2 ∧ h0 (da 100 p) 0 = nI a ∧ h0 (da 100 p) 1 = nI (a + 1) ∧ a ≤ 3) {L : List Nat} {k : Nat} {h : HI} {x : AX} (hF : 2 ≤ G) (hlen : L.length + 12 ≤ 400) (t : TXs n b L k h0 x0 h x) (nx : ∀ k1 h x, k1 ≤ k + 4 → TXs n b (L ++ txK a kc) k1 h0 x0 h x → Gd (sl_L_text_376 G 1 a2 G b 0 h x) P) : Gd (sl_L_text_313 G 1 a2 G b 0 h x) P := by
  have fin : ∀ F j L k h x, TXs n b L k h0 x0 h x → j = kc → Gd (sl_L_text_376 G 1 a2 G b 0 h x) P → Gd (sl_L_text_313 G 1 a2 (F + 1) b (nI j) h x) P := fun F j L k h x t hj H => by
    show Gd (sl_L_text_313_b G 1 a2 (sl_L_text_313 G 1 a2 F) b (nI j) h x) P
    unfold sl_L_text_313_b sl_Jx4a65c_size_8abf5
    refine gd_D ((t.r (by omega)).trans f29) ?_
    rw [cB3_, t.hh (show 3 < n by omega), s1, if_pos (nI_le (by omega) (by omega))]
    exact H
  obtain ⟨F, eF⟩ : ∃ F, G = F + 2 := ⟨G - 2, by omega⟩
  by_cases c0 : kc = 0
  · have t2 := nx k h x (by omega) (by rw [c0]; exact (List.append_nil L).symm ▸ t)
    have h2 := fin (F + 1) 0 L k h x t (by omega) t2
    rw [show F + 1 + 1 = G by omega] at h2
    exact h2
  · obtain rfl : kc = 1 := by omega
    obtain ⟨e1, e2, e3, e4, e5, e6, e7, e8, e9, e10⟩ := hk (by omega)
    have hst : ∀ {L k h x}, TXs n b L k h0 x0 h x → sl_Jx4a65c_get_915e3 3 (nI 0) h x = some (p, h, x) := fun {L k h x} t => K_get0 ((t.hh (by omega)).trans s1) ((t.r (by omega)).trans e1) ((t.r e5).trans e2) (by rw [t.l e5]; exact e3) (by rw [t.l e5]; exact e4)
    have hg : Gd (sl_L_text_313_b G 1 a2 (sl_L_text_313 G 1 a2 (F + 1)) b (nI 0) h x) P := by
      unfold sl_L_text_313_b sl_Jx4a65c_size_8abf5
      refine gd_D ((t.r (by omega)).trans f29) ?_
      rw [cB3_, t.hh (show 3 < n by omega), s1, if_neg (by decide)]
      have hs : (Sw 54).length = 7 := rfl
      have hd1 := dec_l a
      have hd2 := dec_l (a + 1)
      refine gd_S t (by omega) (by omega) (fun h x t2 => gd_D ((t2.r (by omega)).trans f29) ?_)
      rw [hst t2, cB3_]
      refine gd_G (by rw [t2.l e6, e7]; omega) (gd_A hG t2 ((t2.hh e6).trans e8) (by omega) (by rw [List.length_append]; omega) (fun h x t3 => ?_))
      refine gd_C t3 (c := 32) rfl (by omega) (by simp only [List.length_append]; omega) (fun h x t4 => gd_D ((t4.r (by omega)).trans f29) ?_)
      rw [hst t4, cB3_]
      refine gd_G (by rw [t4.l e6, e7]; omega) (gd_A hG t4 ((t4.hh e6).trans e9) (by omega) (by simp only [List.length_append, List.length_cons, List.length_nil]; omega) (fun h x t5 => ?_))
      rw [nI_1]
      refine fin F 1 _ _ h x t5 rfl (nx (k + 1 + 1 + 1 + 1) h x (by omega) ?_)
      have el : L ++ txK a 1 = L ++ Sw 54 ++ dec a ++ [32] ++ dec (a + 1) := by
        show L ++ (Sw 54 ++ dec a ++ [32] ++ dec (a + 1)) = _
        simp only [List.append_assoc]
      rw [el]
      exact t5
    have e0 : sl_L_text_313 G 1 a2 G b 0 h x = sl_L_text_313_b G 1 a2 (sl_L_text_313 G 1 a2 (F + 1)) b (nI 0) h x := by
      conv => lhs; rw [show sl_L_text_313 G 1 a2 G = sl_L_text_313 G 1 a2 (F + 1 + 1) by rw [show F + 1 + 1 = G by omega]]
      rfl
    rw [e0]
    exact hg
end TXL
