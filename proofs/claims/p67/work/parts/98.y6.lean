/-! a minute of the law's floor ends: cat, walker, drying, relocating -/
section FL2
variable {ro R r c G n m k : Nat} {hi h1 h2 : HI} {x : AX}
def PV (r c R : Nat) (hi : HI) (x : AX) : HI × AX → Prop := fun v => v.2 = x ∧ FG r c R hi v.1
theorem FG.cat (g : FG r c R hi h1) : ∃ t, t < r * c ∧ h1 (da 12 1) 19 = nI t := g.1.2.2.2.2.2.2.1
theorem K_prowl62 (F : FS ro R r c x) (hR : R ≠ 0) (g : FG r c R hi h1) : Gd (sl_X10_prowl_62 1 h1 x) (PV r c R hi x) := by
  have hT := g.1.tc
  have hR8 := F.1.2.2
  obtain ⟨q, hq, eq⟩ := g.1.2.2.2.2.2.2.2.resolve_left hR
  unfold sl_X10_prowl_62
  refine gd_D F.1.1 ?_
  rw [F.1.2.1, eq, nI_1, pk_rem (by omega) (by omega) (by omega)]
  refine gd_N (nI_ne0 (by omega) (by omega)) (gd_H (fun h5 e5 => ?_))
  have g5 : FG r c R hi h5 := by rw [e5]; exact g.nx ⟨_, Nat.mod_lt _ (by omega), rfl⟩
  obtain ⟨t, ht, et⟩ := g5.cat
  refine gd_D F.2.2.2.1.1 (gd_j et F.2.2.2.1.2 ht (by omega) (gd_I (fun _ => ?_) (fun _ => gd_ret ⟨rfl, g5⟩)))
  refine gd_D F.2.2.2.1.1 (gd_j et F.2.2.2.1.2 ht (by omega) (gd_H (fun h8 e8 => ?_)))
  have g8 : FG r c R hi h8 := by rw [e8]; exact g5.a (by omega)
  obtain ⟨t8, ht8, et8⟩ := g8.cat
  refine gd_D F.2.2.2.2.2.1.1 (gd_j et8 F.2.2.2.2.2.1.2 ht8 (by omega) (gd_H (fun h10 e10 => ?_)))
  have g10 : FG r c R hi h10 := by rw [e10]; exact g8.a (by omega)
  have z := nz_c g10.1
  refine gd_I (fun _ => gd_I (fun _ => gd_ret ⟨rfl, g10⟩) (fun _ => gd_N z (gd_N z (gd_N z (gd_N z (gd_I (fun _ => gd_ret ⟨rfl, g10⟩) (fun _ => gd_I (fun _ => gd_ret ⟨rfl, g10⟩) (fun _ => gd_I (fun _ => ?_) (fun _ => ?_))))))))) (fun _ => ?_)
  · exact gd_H (fun h11 e11 => gd_ret ⟨rfl, by rw [e11]; exact g10.f (by omega)⟩)
  · exact gd_H (fun h11 e11 => gd_ret ⟨rfl, by rw [e11]; exact g10.f (by omega)⟩)
  · exact gd_H (fun h13 e13 => gd_H (fun h14 e14 => gd_H (fun h15 e15 => gd_ret ⟨rfl, by rw [e15, e14, e13]; exact ((g10.f (by omega)).f (by omega)).f (by omega)⟩)))
theorem K_prowl (F : FS ro R r c x) (N : FNu r c R hi) : Gd (sl_X10_prowl 1 hi x) (PV r c R hi x) := by
  have hT := N.tc
  have hR8 := F.1.2.2
  have g0 : FG r c R hi hi := FG.refl N
  have h43 : R ≠ 0 → ∀ v : Int32, (v < 0 ∨ ∃ t, t < r * c ∧ v = nI t) → Gd (sl_X10_prowl_43 1 v hi x) (PV r c R hi x) := fun hR v hv => by
    unfold sl_X10_prowl_43
    refine gd_I (fun _ => K_prowl62 F hR g0) (fun c1 => ?_)
    obtain ⟨t, ht, rfl⟩ := hv.resolve_left c1
    refine gd_D F.2.2.2.2.2.1.1 (gd_j rfl F.2.2.2.2.2.1.2 ht (by omega) (gd_I (fun _ => K_prowl62 F hR g0) (fun _ => gd_H (fun h17 e17 => K_prowl62 F hR ?_))))
    rw [e17]
    exact g0.ca ⟨t, ht, rfl⟩
  unfold sl_X10_prowl
  refine gd_I (fun _ => gd_ret ⟨rfl, g0⟩) (fun _ => gd_D F.1.1 ?_)
  rw [F.1.2.1]
  refine gd_I (fun c1 => ?_) (fun _ => gd_ret ⟨rfl, g0⟩)
  have hR : R ≠ 0 := fun q => c1 (by rw [q]; rfl)
  obtain ⟨q, hq, eq⟩ := N.2.2.2.2.2.2.2.resolve_left hR
  obtain ⟨t, ht, et⟩ := g0.cat
  refine gd_D F.1.1 (gd_j eq F.1.2.1 hq (by omega) (gd_I (fun _ => ?_) (fun _ => h43 hR _ (Or.inl (by decide)))))
  rw [et]
  refine gd_3 (K_beside N ht _) (fun v k y q2 => ?_)
  obtain ⟨q1, q2⟩ := q2
  cases q1
  exact h43 hR v q2
theorem K_walk225 {rec36 : Int32 → Int32 → HI → AX → Option (HI × AX)} {l1 : Int32} {j : Nat} (g : FG r c R hi h1) (hr : ∀ h2, FG r c R hi h2 → Gd (rec36 l1 (nI (j + 1)) h2 x) (PV r c R hi x)) : Gd (sl_X10_walk_225 G 1 rec36 l1 (nI j) h1 x) (PV r c R hi x) := by
  unfold sl_X10_walk_225
  rw [nI_1]
  exact gd_I (fun _ => hr _ g) (fun _ => gd_I (fun _ => gd_H (fun h13 e13 => gd_H (fun h14 e14 => gd_ret ⟨rfl, by rw [e14, e13]; exact (g.f (by omega)).f (by omega)⟩))) (fun _ => hr _ g))
theorem K_walk96 {rec36 : Int32 → Int32 → HI → AX → Option (HI × AX)} {l1 t0 : Int32} {j u : Nat} (F : FS ro R r c x) (g : FG r c R hi h1) (hu : u < r * c) (hr : ∀ h2, FG r c R hi h2 → Gd (rec36 l1 (nI (j + 1)) h2 x) (PV r c R hi x)) : Gd (sl_X10_walk_96 G 1 rec36 l1 (nI j) (nI u) t0 (nI u) 1 h1 x) (PV r c R hi x) := by
  have hT := g.1.tc
  have F8 := F.2.2.2.2.1
  have F9 := F.2.2.2.2.2.1
  have F10 := F.2.2.2.2.2.2.1
  unfold sl_X10_walk_96
  refine gd_3 (K_beside g.1 hu _) (fun v k y q2 => ?_)
  obtain ⟨q1, q2⟩ := q2
  cases q1
  refine gd_H (fun h5 e5 => ?_)
  have g5 : FG r c R hi h5 := by rw [e5]; exact g.w (Or.inr ⟨u, hu, rfl⟩)
  refine gd_N (nz_c g5.1) (gd_H (fun h6 e6 => ?_))
  have g6 : FG r c R hi h6 := by rw [e6]; exact g5.f (by omega)
  refine gd_D F10.1 (gd_j rfl F10.2 hu (by omega) (gd_j rfl F10.2 hu (by omega) (gd_H (fun h8 e8 => gd_H (fun h9 e9 => gd_H (fun h10 e10 => gd_H (fun h11 e11 => ?_)))))))
  have g11 : FG r c R hi h11 := by rw [e11, e10, e9, e8]; exact (((g6.a (by omega)).f (by omega)).f (by omega)).f (by omega)
  have w11 := K_walk225 (G := G) (l1 := l1) (j := j) g11 hr
  refine gd_D F8.1 (gd_j rfl F8.2 hu (by omega) (gd_I (fun _ => w11) (fun _ => gd_I (fun _ => w11) (fun c3 => ?_))))
  obtain ⟨u2, hu2, rfl⟩ := q2.resolve_left c3
  refine gd_D F8.1 (gd_j rfl F8.2 hu2 (by omega) (gd_I (fun _ => w11) (fun _ => ?_)))
  refine gd_D F.2.2.2.1.1 (gd_j rfl F.2.2.2.1.2 hu2 (by omega) (gd_I (fun _ => w11) (fun _ => ?_)))
  refine gd_D F9.1 (gd_j rfl F9.2 hu2 (by omega) (gd_I (fun _ => w11) (fun _ => ?_)))
  refine gd_D F8.1 (gd_j rfl F8.2 hu (by omega) (gd_H (fun h19 e19 => ?_)))
  refine gd_D F8.1 (gd_j rfl F8.2 hu2 (by omega) (gd_H (fun h21 e21 => gd_H (fun h22 e22 => ?_))))
  exact K_walk225 (by rw [e22, e21, e19]; exact ((g11.a (by omega)).a (by omega)).f (by omega)) hr
theorem K_walk_l (hG : 100 < G) (F : FS ro R r c x) (S : LSt m 3 k hi x) (hk : k < 100) {l1 : Int32} (hl : l1 ≤ 4) : ∀ n f j h1, j + n = 4 → n < f → FG r c R hi h1 → Gd (sl_X10_walk_36 G 1 f l1 (nI j) h1 x) (PV r c R hi x) := fun n => by
  induction n with
  | zero =>
    intro f j h1 hj hf g
    obtain ⟨f, rfl⟩ : ∃ g, f = g + 1 := ⟨f - 1, by omega⟩
    show Gd (sl_X10_walk_36_b G 1 (sl_X10_walk_36 G 1 f) l1 (nI j) h1 x) _
    unfold sl_X10_walk_36_b
    obtain rfl : j = 4 := by omega
    rw [if_pos (show l1 ≤ nI 4 from hl)]
    exact gd_ret ⟨rfl, g⟩
  | succ n ih =>
    intro f j h1 hj hf g
    obtain ⟨f, rfl⟩ : ∃ g, f = g + 1 := ⟨f - 1, by omega⟩
    show Gd (sl_X10_walk_36_b G 1 (sl_X10_walk_36 G 1 f) l1 (nI j) h1 x) _
    unfold sl_X10_walk_36_b
    have hr : ∀ h2, FG r c R hi h2 → Gd (sl_X10_walk_36 G 1 f l1 (nI (j + 1)) h2 x) (PV r c R hi x) := fun h2 g2 => ih f (j + 1) h2 (by omega) (by omega) g2
    refine gd_I (fun _ => gd_ret ⟨rfl, g⟩) (fun _ => gd_3 (K_block hG F g.1 (S.cg g.2.l3) hk) (fun v k y q => ?_))
    obtain ⟨q1, q2⟩ := q
    cases q1
    refine gd_I (fun c2 => ?_) (fun _ => ?_)
    · obtain ⟨-, u, hu, eu⟩ := q2 c2
      rw [eu, cB3_]
      exact gd_I (fun _ => K_walk96 F g hu hr) (fun _ => K_walk96 F g hu hr)
    · unfold sl_X10_walk_61
      refine gd_I (fun _ => gd_G (Or.inl rfl) (gd_H (fun h23 e23 => gd_H (fun h24 e24 => ?_)))) (fun _ => gd_G (Or.inr rfl) (gd_H (fun h23 e23 => gd_H (fun h24 e24 => ?_))))
      · exact K_walk225 (by rw [e24, e23]; exact (g.f (by omega)).f (by omega)) hr
      · exact K_walk225 (by rw [e24, e23]; exact (g.f (by omega)).f (by omega)) hr
theorem K_walk (hG : 100 < G) (F : FS ro R r c x) (N : FNu r c R hi) (S : LSt m 3 k hi x) (hk : k < 100) : Gd (sl_X10_walk G 1 hi x) (PV r c R hi x) := by
  have g0 : FG r c R hi hi := FG.refl N
  unfold sl_X10_walk
  refine gd_I (fun _ => gd_I (fun _ => gd_3 (K_steps hG F N S hk) (fun v k y q => ?_)) (fun _ => K_walk_l hG F S hk (by decide) 4 G 0 hi (by omega) (by omega) g0)) (fun _ => gd_H (fun h e => gd_ret ⟨rfl, by rw [e]; exact g0.f (by omega)⟩))
  obtain ⟨q1, q2⟩ := q
  cases q1
  exact K_walk_l hG F S hk q2 4 G 0 hi (by omega) (by omega) g0
theorem K_reloc_l (hG : 100 < G) (F : FS ro R r c x) (N : FNu r c R hi) (S : LSt m 3 k hi x) (hk : k < 100) : ∀ n f t (l1 : Int32), t + n = r * c → n < f → (l1 < 0 ∨ ∃ u, u < r * c ∧ l1 = nI u) → Gd (sl_X10_relocate_30 G 1 f l1 (nI t) hi x) (PV r c R hi x) := fun n => by
  have hT := N.tc
  have g0 : FG r c R hi hi := FG.refl N
  have z := nz_c N
  induction n with
  | zero =>
    intro f t l1 ht hf hl
    obtain ⟨f, rfl⟩ : ∃ g, f = g + 1 := ⟨f - 1, by omega⟩
    show Gd (sl_X10_relocate_30_b G 1 (sl_X10_relocate_30 G 1 f) l1 (nI t) hi x) _
    unfold sl_X10_relocate_30_b
    rw [K_tiles N.2.1 N.2.2.1, cB3_, if_pos (nI_le (by omega) (by omega))]
    refine gd_H (fun h3 e3 => ?_)
    have g3 : FG r c R hi h3 := by rw [e3]; exact g0.w hl
    exact gd_I (fun _ => gd_ret ⟨rfl, g3⟩) (fun _ => gd_N (nz_c g3.1) (gd_H (fun h4 e4 => gd_ret ⟨rfl, by rw [e4]; exact g3.f (by omega)⟩)))
  | succ n ih =>
    intro f t l1 ht hf hl
    obtain ⟨f, rfl⟩ : ∃ g, f = g + 1 := ⟨f - 1, by omega⟩
    show Gd (sl_X10_relocate_30_b G 1 (sl_X10_relocate_30 G 1 f) l1 (nI t) hi x) _
    unfold sl_X10_relocate_30_b
    have h2 : t < r * c := by omega
    rw [K_tiles N.2.1 N.2.2.1, cB3_, if_neg (nI_ge h2 (by omega)), nI_1]
    refine gd_3 (K_lit hG F N S hk h2) (fun v k y q => ?_)
    cases q
    have ih1 : ∀ l, (l < 0 ∨ ∃ u, u < r * c ∧ l = nI u) → Gd (sl_X10_relocate_30 G 1 f l (nI (t + 1)) hi x) (PV r c R hi x) := fun l hl => ih f (t + 1) l (by omega) (by omega) hl
    have it : nI t < 0 ∨ ∃ u, u < r * c ∧ nI t = nI u := Or.inr ⟨t, h2, rfl⟩
    refine gd_I (fun _ => ih1 l1 hl) (fun _ => gd_D F.2.2.2.2.2.1.1 (gd_j rfl F.2.2.2.2.2.1.2 h2 (by omega) ?_))
    exact gd_I (fun _ => gd_I (fun _ => ih1 _ it) (fun _ => gd_N z (gd_N z (gd_I (fun _ => ih1 l1 hl) (fun _ => ih1 _ it))))) (fun _ => ih1 l1 hl)
theorem K_relocate (hG : 100 < G) (F : FS ro R r c x) (N : FNu r c R hi) (S : LSt m 3 k hi x) (hk : k < 100) : Gd (sl_X10_relocate G 1 hi x) (PV r c R hi x) := by
  have hT := N.tc
  have g0 : FG r c R hi hi := FG.refl N
  have hl : Gd (sl_X10_relocate_30 G 1 G (-1 : Int32) (0 : Int32) hi x) (PV r c R hi x) := K_reloc_l hG F N S hk (r * c) G 0 (-1) (by omega) (by omega) (Or.inl (by decide))
  unfold sl_X10_relocate
  refine gd_3 (K_shines hG F S hk) (fun v k y q => ?_)
  obtain ⟨q1, -⟩ := q
  cases q1
  refine gd_I (fun _ => gd_ret ⟨rfl, g0⟩) (fun _ => gd_I (fun _ => hl) (fun c2 => ?_))
  obtain ⟨t, ht, et⟩ := N.2.2.2.2.2.1.resolve_left c2
  rw [et]
  refine gd_3 (K_lit hG F N S hk ht) (fun v k y q => ?_)
  cases q
  exact gd_I (fun _ => hl) (fun _ => gd_ret ⟨rfl, g0⟩)
end FL2
