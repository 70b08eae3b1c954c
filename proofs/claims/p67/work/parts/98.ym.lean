/-! THE END OF A STEP OF THE LAW: what is saved comes back -/
/-- within a step: w0 is saved at s, and the row l4 shows it -/
def SI (K M r c l4 l5 s : Nat) (w0 : Wd) (A : As_) (hi : HI) (x : AX) : Prop := LI K M r c l4 l5 A hi x ∧ A.sv s = some w0 ∧ ∃ f, ∀ k, k < 100 → lgx x l4 k = see w0 f k
section SIS
variable {K M r c l4 l5 s G : Nat} {w0 : Wd} {A B : As_} {hi h1 : HI} {x : AX} {ρ : Type}
theorem LI.rc (S : LI K M r c l4 l5 A hi x) : p_rc A.w = r * c ∧ r * c ≤ 15 ∧ 4 ≤ r * c := by
  obtain ⟨-, ⟨a, b, -⟩, -, -, -, -, hcc⟩ := S
  refine ⟨by unfold p_rc; rw [a, b], Nat.mul_le_mul hcc.2.1 hcc.2.2.2, Nat.mul_le_mul hcc.1 hcc.2.2.1⟩
theorem LI.f0 (S : LI K M r c l4 l5 A hi x) : hi (da 12 1) 0 = nI (nn A.w 0) ∧ hi (da 12 1) 1 = nI (nn A.w 1) := by
  obtain ⟨-, ⟨a, b, -⟩, -, ⟨f0, f1⟩, -⟩ := S
  rw [a, b]; exact ⟨f0, f1⟩
/-- a call that leaves the tuple as it is -/
theorem LI.q (S : LI K M r c l4 l5 A hi x) (H : RC A h1 x) (f : fC_ hi h1) : LI K M r c l4 l5 A h1 x := by
  obtain ⟨⟨a1, a2, a3⟩, b, d, ⟨f0, f1⟩, e⟩ := S
  exact ⟨⟨H, a2, a3⟩, b, d, ⟨(f _ _ (Or.inl ⟨12, 1, rfl⟩)).trans f0, (f _ _ (Or.inl ⟨12, 1, rfl⟩)).trans f1⟩, e⟩
theorem SI.q (S : SI K M r c l4 l5 s w0 A hi x) (H : RC A h1 x) (f : fC_ hi h1) : SI K M r c l4 l5 s w0 A h1 x := ⟨S.1.q H f, S.2⟩
/-- a call that leaves another -/
theorem SI.nx {K2 M2 : Nat} (S : SI K M r c l4 l5 s w0 A hi x) (H : RC B h1 x) (f : fC_ hi h1) (O : Ok_ K2 B) (el : B.ld = true) (es : B.sv = A.sv) (k : Kp A.w B.w) (im : Im M2 B.w) (hM : M ≤ M2) : SI K2 M2 r c l4 l5 s w0 B h1 x := by
  obtain ⟨⟨⟨a1, a2, a3⟩, ⟨b0, b1, b2⟩, d, ⟨f0, f1⟩, e⟩, g, g2⟩ := S
  refine ⟨⟨⟨H, O, el⟩, ⟨k.nn.1.trans b0, k.nn.2.trans b1, im⟩, fun j v q => ?_, ⟨(f _ _ (Or.inl ⟨12, 1, rfl⟩)).trans f0, (f _ _ (Or.inl ⟨12, 1, rfl⟩)).trans f1⟩, e⟩, by rw [es]; exact g, g2⟩
  rw [es] at q
  have := d j v q
  exact ⟨this.1, this.2.1, this.2.2.mono hM⟩
theorem K_631 {rec60 : Nat → Nat → Nat → Int32 → HI → AX → Option (Int32 × HI × AX)} {l6 l7 : Int32} (hG : 100 < G) (hM : M < 2 ^ 31) (hs : s < 2) (S : SI K M r c l4 l5 s w0 A hi x) {P : Int32 × HI × AX → Prop} (nx : ∀ A1 h1 x1, LI K M r c l4 l5 A1 h1 x1 → XK 0 x x1 → Gd (rec60 1 l4 l5 (l6 + 1) h1 x1) P) : Gd (sl_L_law_631 G rec60 1 l4 l5 l6 l7 (nI s) hi x) P := by
  have L := S.1
  obtain ⟨⟨H, O, e⟩, ⟨n0, n1, im⟩, d, -, ⟨q4, q5, q45⟩, hsl, hcc⟩ := S.1
  obtain ⟨rc1, rc2, rc3⟩ := L.rc
  unfold sl_L_law_631
  rw [Cv_imbalance O H e, cB3_, im.imb hM, if_neg (by decide), K_oneRow (by omega) O H e L.f0.1 L.f0.2, cB3_, if_pos (by decide)]
  refine gd_I (fun _ => nx A hi x L ⟨⟨rfl, rfl⟩, Nat.le_refl _, Nat.le_refl _⟩) (fun _ => ?_)
  obtain ⟨h2, e2, H2, f2, O2⟩ := Cv_restoreState O H hs S.2.1
  have eB : B_rest A (nI s) = ((A.ld, w0), ([], A.sv), A.2.2) := by
    unfold B_rest
    rw [an_f (by omega), S.2.1]
  have bw : (B_rest A (nI s)).w = w0 := by rw [eB]; rfl
  have bl : (B_rest A (nI s)).ld = true := by rw [eB]; exact e
  have bs : (B_rest A (nI s)).sv = A.sv := by rw [eB]; rfl
  have bp : (B_rest A (nI s)).ps = [] := by rw [eB]; rfl
  clear eB
  generalize B_rest A (nI s) = B at H2 O2 bw bl bs bp
  obtain ⟨f, hf⟩ := S.2.2
  rw [e2, cB3_]
  refine gd_G (by rw [q4]; omega) ?_
  rw [hf 0 (by omega), see_0, lc_e, if_neg (by decide)]
  rw [show sh_X9_undoCount h2 = nI 0 from by
    obtain ⟨-, ⟨p, -, -, u, -⟩, -⟩ := H2
    rw [bp] at u
    exact u]
  rw [show uI0 (some (nI 0)) h2 x = some (nI 0, h2, x) from rfl, cB3_, if_pos (by decide)]
  have dw := d s w0 S.2.1
  have L2 : LI K M r c l4 l5 B h2 x := ⟨⟨H2, O2, bl⟩, by rw [bw]; exact dw, by rw [bs]; exact d, ⟨(f2 _ _ (Or.inl ⟨12, 1, rfl⟩)).trans L.2.2.2.1.1, (f2 _ _ (Or.inl ⟨12, 1, rfl⟩)).trans L.2.2.2.1.2⟩, ⟨q4, q5, q45⟩, hsl, hcc⟩
  have r2 : p_rc B.w ≤ 60 := by rw [L2.rc.1]; omega
  rw [K_sees hG O2 H2 bl L2.f0.1 L2.f0.2 r2 q5, cB2_]
  rw [K_equals (x := xL x l5 (see B.w (lgx x l5))) hG (a := l4) (c := l5) q4 q5 (fun k hk => by
    rw [xL_o q45, xL_v, hf k hk, bw]
    exact see_e k hk), cB3_, if_pos (by decide)]
  exact nx B h2 _ ⟨⟨H2.cx rfl, O2, bl⟩, L2.2.1, L2.2.2.1, L2.2.2.2.1, ⟨q4, q5, q45⟩, hsl, hcc⟩ ⟨⟨rfl, rfl⟩, Nat.le_refl _, Nat.le_refl _⟩
end SIS
