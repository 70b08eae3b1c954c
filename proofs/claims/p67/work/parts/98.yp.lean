/-! A STEP OF THE LAW -/
section STP
variable {K M r c l4 l5 G i : Nat} {A : As_} {hi : HI} {x : AX}
theorem LI.mono {K2 M2 : Nat} (S : LI K M r c l4 l5 A hi x) (hK : K ≤ K2) (hM : M ≤ M2) : LI K2 M2 r c l4 l5 A hi x := by
  obtain ⟨⟨a1, a2, a3⟩, ⟨b0, b1, b2⟩, d, e⟩ := S
  exact ⟨⟨a1, a2.mono hK, a3⟩, ⟨b0, b1, b2.mono hM⟩, fun k v q => ⟨(d k v q).1, (d k v q).2.1, (d k v q).2.2.mono hM⟩, e⟩
theorem SI.end {s : Nat} {w0 : Wd} {rec60 : Nat → Nat → Nat → Int32 → HI → AX → Option (Int32 × HI × AX)} {l6 l7 : Int32} {K0 M0 : Nat} (hG : 100 < G) (hM : M < 2 ^ 31) (hs : s < 2) {P : Int32 × HI × AX → Prop} {f : Nat → Int64} (nx : ∀ A1 h1 x1, LI K0 M0 r c l4 l5 A1 h1 x1 → XK 0 x x1 → Gd (rec60 1 l4 l5 (l6 + 1) h1 x1) P) (S : SI K M r c l4 l5 s w0 A hi (xL x l4 f)) (hK : K ≤ K0) (hM0 : M ≤ M0) : Gd (sl_L_law_631 G rec60 1 l4 l5 l6 l7 (nI s) hi (xL x l4 f)) P := K_631 hG hM hs S (fun A1 h1 x1 L X => nx A1 h1 x1 (L.mono hK hM0) X)
theorem K_step {rec60 : Nat → Nat → Nat → Int32 → HI → AX → Option (Int32 × HI × AX)} (hG : 600 < G) (hM : M < 2 ^ 29) (hK : K ≤ 100000) (hi6 : i < 2 ^ 30) (S : LI K M r c l4 l5 A hi x) {P : Int32 × HI × AX → Prop} (he : 20 ≤ i → P (1, hi, x)) (nx : i < 20 → ∀ A1 h1 x1, LI (K + 300) (M + 1500) r c l4 l5 A1 h1 x1 → XK 0 x x1 → Gd (rec60 1 l4 l5 (nI i + 1) h1 x1) P) : Gd (sl_L_law_60_b G rec60 1 l4 l5 (nI i) hi x) P := by
  have S0 := S
  obtain ⟨⟨H, O, e⟩, ⟨n0, n1, im⟩, dsv, ⟨f0, f1⟩, ⟨q4, q5, q45⟩, hsl, hcc⟩ := S
  obtain ⟨rc1, rc2, rc3⟩ := S0.rc
  unfold sl_L_law_60_b
  refine gd_I (fun c20 => ?_) (fun c20 => ?_)
  · rw [Cv_imbalance O H e, cB3_, im.imb (by omega), if_neg (by decide)]
    exact gd_ret (he ((nI_leI (a := 20) (by omega) (by omega)).mp c20))
  have i20 : i < 20 := Nat.lt_of_not_le (fun q => c20 (nI_le (a := 20) q (by omega)))
  have nx := nx i20
  obtain ⟨z, ez⟩ := K_cell (hi := hi) (x := x) (k := 6 + i) (by omega) hsl
  rw [show (6 : Int32) + nI i = nI (6 + i) from nI_add 6 i, ez, cB3_, K_tiles f0 f1, cB3_]
  refine gd_N (nI_ne0 (by omega) (by omega)) (gd_N (by rw [f1]; exact nI_ne0 (by omega) (by omega)) ?_)
  have r60 : p_rc A.w ≤ 60 := by omega
  rw [K_sees (by omega) O H e S0.f0.1 S0.f0.2 r60 q4, cB2_]
  obtain ⟨s, hs, es⟩ := an1 z
  rw [es]
  have H1 : RC A hi (xL x l4 (see A.w (lgx x l4))) := H.cx rfl
  obtain ⟨h14, e14, H14, f14, O14⟩ := Cv_saveState O H1 e hs
  rw [e14, cB3_]
  refine gd_G (show 0 < lnx x l4 by omega) ?_
  rw [xL_v, see_0, lc_e, if_neg (by decide)]
  have bw : (B_save A (nI s)).w = A.w := rfl
  have bl : (B_save A (nI s)).ld = true := e
  have bs : (B_save A (nI s)).sv s = some A.w := by
    show (if s = an_ (nI s) then some A.w else A.sv s) = some A.w
    rw [an_f (by omega), if_pos rfl]
  have bd : ∀ k v, (B_save A (nI s)).sv k = some v → nn v 0 = r ∧ nn v 1 = c ∧ Im M v := fun k v q => by
    have q : (if k = an_ (nI s) then some A.w else A.sv k) = some v := q
    by_cases ck : k = an_ (nI s)
    · rw [if_pos ck] at q
      injection q with q
      rw [← q]
      exact ⟨n0, n1, im⟩
    · rw [if_neg ck] at q
      exact dsv k v q
  generalize B_save A (nI s) = B at H14 O14 bw bl bs bd
  have L : LI K M r c l4 l5 B h14 (xL x l4 (see A.w (lgx x l4))) := ⟨⟨H14, O14, bl⟩, by rw [bw]; exact ⟨n0, n1, im⟩, bd, ⟨(f14 _ _ (Or.inl ⟨12, 1, rfl⟩)).trans f0, (f14 _ _ (Or.inl ⟨12, 1, rfl⟩)).trans f1⟩, ⟨q4, q5, q45⟩, hsl, hcc⟩
  have S1 : SI K M r c l4 l5 s A.w B h14 (xL x l4 (see A.w (lgx x l4))) := ⟨L, bs, _, fun k _ => xL_v⟩
  have fin := fun {K M : Nat} {w0 : Wd} {A2 : As_} {hi : HI} {l7 : Int32} (hM2 : M < 2 ^ 31) (S2 : SI K M r c l4 l5 s w0 A2 hi (xL x l4 (see A.w (lgx x l4)))) => SI.end (l6 := nI i) (l7 := l7) (show 100 < G by omega) hM2 hs nx S2
  rw [Cv_imbalance O14 H14 bl, cB3_, (L.2.1.2.2).imb (by omega), if_neg (by decide), K_oneRow (by omega) O14 H14 bl L.f0.1 L.f0.2, cB3_, if_pos (by decide), f1]
  obtain ⟨a, ha, ea⟩ := an15 (z.toUInt32 >>> ((5 : Int32).toUInt32 &&& Int32.toUInt32 31)).toInt32
  obtain ⟨b, hb, eb⟩ := an7 (z.toUInt32 >>> ((9 : Int32).toUInt32 &&& Int32.toUInt32 31)).toInt32
  obtain ⟨d, hd, ed⟩ := an15 (z.toUInt32 >>> ((12 : Int32).toUInt32 &&& Int32.toUInt32 31)).toInt32
  rw [ea, eb, ed, pk_rem (by omega) (by omega) (by omega), pk_rem (by omega) (by omega) (by omega), show (1 : Int32) + nI d = nI (1 + d) from nI_add 1 d]
  have ht : a % (r * c) < p_rc B.w := by
    rw [L.rc.1]
    exact Nat.mod_lt _ (by omega)
  have hcol : b % c < nn B.w 1 := by
    rw [L.2.1.2.1]
    exact Nat.mod_lt _ (by omega)
  have hn1 : 1 ≤ 1 + d := by omega
  have hn2 : 1 + d ≤ 16 := by omega
  generalize a % (r * c) = t at ht
  generalize 1 + d = n at hn1 hn2
  generalize b % c = k at hcol
  refine gd_I (fun _ => gd_I (fun _ => gd_I (fun _ => gd_I (fun _ => gd_I (fun _ => gd_I (fun _ => gd_I (fun _ => ?_) (fun _ => ?_)) (fun _ => ?_)) (fun _ => ?_)) (fun _ => ?_)) (fun _ => ?_)) (fun _ => ?_)) (fun _ => ?_)
  all_goals sorry
end STP
